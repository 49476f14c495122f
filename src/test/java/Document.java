import java.io.IOException;
import java.nio.file.Files;
import java.nio.file.Path;
import java.util.LinkedHashMap;
import java.util.Map;
import java.util.Set;
import java.util.regex.Matcher;
import java.util.regex.Pattern;

/** DOC.md, cut into its promises and the sections of its description. */
final class Document {
    private static final Path FILE = Path.of("../shared/DOC.md");
    private static final Pattern HEADING = Pattern.compile("^## (.*)$");
    private static final Pattern SECTION = Pattern.compile("^([A-Z][a-z]+(?: [a-z]+)?)[.:] ?.*$", Pattern.DOTALL);

    private final Map<String, String> places = new LinkedHashMap<>();

    static Document read() throws IOException {
        Document document = new Document();
        String place = "";
        for (String paragraph : Files.readString(FILE).split("\n\\s*\n")) {
            place = document.placeOf(paragraph.strip(), place);
            document.places.merge(place, flat(paragraph), (before, more) -> before + " " + more);
        }
        return document;
    }

    Set<String> places() {
        return places.keySet();
    }

    boolean says(String place, String words) {
        return places.getOrDefault(place, "").contains(flat(words));
    }

    private String placeOf(String paragraph, String before) {
        Matcher heading = HEADING.matcher(paragraph);
        if (heading.matches()) {
            return heading.group(1);
        }
        Matcher section = SECTION.matcher(paragraph);
        boolean described = places.containsKey("Description") && !before.startsWith("Promise") && !before.startsWith("Not");
        return described && section.matches() ? section.group(1) : before;
    }

    private static String flat(String text) {
        return text.replaceAll("\\s+", " ");
    }
}
