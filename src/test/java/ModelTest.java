import java.util.Arrays;
import java.util.List;
import java.util.Random;

/** Mixed runs with fixed seeds: the class and the model answer alike. No object is asked more than its 512 calls. */
public final class ModelTest {
    private static final int RUNS = 20000;
    private static final int CALLS = 512;
    /** A new pipeline is typed sign by sign, and up to 50 records are pushed. */
    private static final int DEAREST_CALL = 130;
    private static final int[] ODD = {-1, 0, 1, 2, 3, 16, 60, 61, 127, 128, 200, 201, Integer.MAX_VALUE, Integer.MIN_VALUE};
    private static final int[] CROWDING = {0, 2, 3, 3, 7, 5, 6};
    private static final int[] seen = new int[6];
    private static int deepest = 0;
    private static int wrong = 0;

    private final Random random;
    private final boolean crowded;
    private final PipelineSimulator real = new PipelineSimulator();
    private final Model model = new Model();
    private final StringBuilder story = new StringBuilder();
    private int calls = 0;

    private ModelTest(long seed) {
        random = new Random(seed);
        crowded = random.nextInt(3) == 0;
        story.append("seed ").append(seed).append(':');
    }

    public static void main(String[] args) {
        for (int seed = 0; seed < RUNS && wrong < 10; seed++) {
            new ModelTest(seed).run(seed);
        }
        if (Boolean.getBoolean("tell")) {
            System.out.println("reasons " + Arrays.toString(seen) + ", deepest explanation " + deepest);
        }
        for (int seed = 0; seed < 20000 && wrong < 10; seed++) {
            readAnyText(new Random(seed));
        }
        for (int reason = 1; reason <= 5; reason++) {
            if (seen[reason] < 100) {
                wrong++;
                System.out.println("too few runs led to the reason " + reason);
            }
        }
        if (wrong > 0) {
            System.exit(1);
        }
    }

    private void run(int seed) {
        if (seed % 5 != 0) {
            setUp();
        }
        while (calls + DEAREST_CALL <= CALLS && wrong < 10) {
            oneCall();
            if (model.running != 0) {
                explainLongest();
            }
            int questions = random.nextInt(9);
            for (int i = 0; i < questions && calls + DEAREST_CALL <= CALLS; i++) {
                oneQuestion();
            }
        }
        while (calls < CALLS - 20 && wrong < 10) {
            oneQuestion();
        }
    }

    private void setUp() {
        type(pipeline());
        due("readPipeline()", real.readPipeline(), model.readPipeline());
        int size = 1 + random.nextInt(4);
        int age = 1 + random.nextInt(9);
        int credits = crowded ? 2 : 2 + random.nextInt(3);
        int rate = 1 + random.nextInt(crowded ? 2 : 5);
        due("configure", real.configure(size, age, credits, rate), model.configure(size, age, credits, rate));
        int records = crowded ? 50 : random.nextInt(50);
        for (int i = 0; i < records; i++) {
            pushOne();
        }
    }

    private void pushOne() {
        int key = random.nextInt(random.nextBoolean() ? 16 : 3);
        int value = random.nextInt(199) - 99;
        if (random.nextInt(3) == 0) {
            value = random.nextInt(4);
        }
        due("push(" + key + "," + value + ")", real.push(key, value), model.push(key, value));
    }

    private String pipeline() {
        StringBuilder s = new StringBuilder();
        int stages = random.nextInt(5);
        for (int i = 0; i < stages; i++) {
            if (i > 0) {
                s.append('|');
            }
            int kind = crowded ? CROWDING[random.nextInt(CROWDING.length)] : random.nextInt(9) % 8;
            s.append("mfkcsdrc".charAt(kind));
            switch (kind) {
                case 0 -> s.append('(').append(number()).append(',').append(number()).append(')');
                case 1 -> s.append('(').append(random.nextInt(3)).append(',').append(random.nextInt(5) - 2).append(')');
                case 2 -> s.append('(').append(number()).append(',').append(number()).append(')');
                case 3, 7 -> s.append('(').append(crowded ? 1 + random.nextInt(3) : random.nextInt(4)).append(')');
                case 4 -> s.append('(').append(1 + random.nextInt(5)).append(')');
                default -> { }
            }
            int size = random.nextInt(4) + (crowded ? 1 : 0);
            size = Math.min(size, 3);
            if (size > 0) {
                s.append(size);
            }
        }
        if (random.nextBoolean() && !crowded) {
            s.append('$').append(1 + random.nextInt(3));
        }
        return s.toString();
    }

    private String number() {
        int n = random.nextInt(199) - 99;
        if (random.nextBoolean()) {
            n = random.nextInt(7) - 3;
        }
        boolean padded = random.nextInt(4) == 0 && Math.abs(n) < 10;
        return (n < 0 ? "-" : "") + (padded ? "0" : "") + Math.abs(n);
    }

    private void type(String text) {
        for (int i = 0; i < text.length(); i++) {
            int code = text.charAt(i);
            due("append(" + code + ",1)", real.append(code, 1), model.append(code, 1));
        }
    }

    private int odd() {
        return ODD[random.nextInt(ODD.length)];
    }

    private void oneCall() {
        int choice = random.nextInt(100);
        if (choice < 45) {
            int limit = random.nextInt(8) == 0 ? 200 : 1 + random.nextInt(3);
            due("tick(" + limit + ")", real.tick(limit), model.tick(limit));
        } else if (choice < 60) {
            due("checkpoint()", real.checkpoint(), model.checkpoint());
        } else if (choice < 78) {
            pushOne();
        } else if (choice < 83) {
            due("fail()", real.fail(), model.fail());
        } else if (choice < 89) {
            int o = random.nextInt(7);
            int n = random.nextInt(5);
            due("rescale(" + o + "," + n + ")", real.rescale(o, n), model.rescale(o, n));
        } else if (choice < 91) {
            due("clear()", real.clear(), model.clear());
        } else if (choice < 93) {
            setUp();
        } else if (choice < 95) {
            type(pipeline());
            due("readPipeline()", real.readPipeline(), model.readPipeline());
        } else if (choice < 97) {
            due("write()", real.write(), model.write());
        } else {
            oddCalls();
        }
    }

    private void oddCalls() {
        int a = odd();
        int b = odd();
        int c = odd();
        int d = odd();
        String with = "(" + a + "," + b + "," + c + "," + d + ")";
        due("append" + with, real.append(a, b), model.append(a, b));
        due("configure" + with, real.configure(a, b, c, d), model.configure(a, b, c, d));
        due("push" + with, real.push(a, b), model.push(a, b));
        due("tick" + with, real.tick(a), model.tick(a));
        due("rescale" + with, real.rescale(a, b), model.rescale(a, b));
        due("count" + with, real.count(a), model.count(a));
        due("operator" + with, real.operator(a, b), model.operator(a, b));
        due("instance" + with, real.instance(a, b, c), model.instance(a, b, c));
        due("channel" + with, real.channel(a, b, c, d), model.channel(a, b, c, d));
        due("state" + with, real.state(a, b, c), model.state(a, b, c));
        due("savedState" + with, real.savedState(a, b, c), model.savedState(a, b, c));
        due("latency" + with, real.latency(a), model.latency(a));
        due("plain" + with, real.plain(a, b), model.plain(a, b));
        due("explain" + with, real.explain(a, b), model.explain(a, b));
        due("explanation" + with, real.explanation(a, b), model.explanation(a, b));
        due("written" + with, real.written(a), model.written(a));
    }

    /** A number from -1 to the one behind the last. */
    private int upTo(int last) {
        return random.nextInt(last + 3) - 1;
    }

    private void oneQuestion() {
        int o = upTo(5);
        int i = upTo(2);
        int j = upTo(2);
        int key = random.nextBoolean() ? upTo(15) : random.nextInt(3);
        int second = random.nextInt(6) == 0 ? upTo(1) : random.nextInt(2);
        int what = upTo(9);
        String with = "(" + o + "," + i + "," + j + "," + key + "," + second + "," + what + ")";
        switch (random.nextInt(13)) {
            case 0 -> due("isQuiet()", real.isQuiet(), model.isQuiet());
            case 1 -> due("count" + with, real.count(what), model.count(what));
            case 2 -> due("operator" + with, real.operator(o, what - 1), model.operator(o, what - 1));
            case 3 -> due("instance" + with, real.instance(o, i, what / 2 + j), model.instance(o, i, what / 2 + j));
            case 4 -> due("channel" + with, real.channel(o, i, j, what / 2), model.channel(o, i, j, what / 2));
            case 5, 6 -> due("state" + with, real.state(o, key, second), model.state(o, key, second));
            case 7 -> due("savedState" + with, real.savedState(o, key, second), model.savedState(o, key, second));
            case 8 -> due("plain" + with, real.plain(key, second), model.plain(key, second));
            case 9 -> {
                int hundredths = random.nextBoolean() ? what - 3 : upTo(100);
                due("latency(" + hundredths + ")", real.latency(hundredths), model.latency(hundredths));
            }
            case 10 -> due("written" + with, real.written(what * 5), model.written(what * 5));
            case 11 -> explainOne(o, i);
            default -> explainLongest();
        }
    }

    /** Most instances wait for nothing, so those with the longest explanation are asked after more often. */
    private void explainLongest() {
        List<int[]> kept = model.levels;
        int longest = 0;
        int[] place = {0, 0};
        int first = random.nextInt(18);
        for (int i = first; i < first + 18; i++) {
            int levels = model.explain(i % 18 / 3, i % 3);
            if (levels > longest) {
                longest = levels;
                place = new int[] {i % 18 / 3, i % 3};
            }
        }
        model.levels = kept;
        if (longest > 1) {
            explainOne(place[0], place[1]);
        }
    }

    private void explainOne(int operator, int instance) {
        int levels = model.explain(operator, instance);
        due("explain(" + operator + "," + instance + ")", real.explain(operator, instance), levels);
        deepest = Math.max(deepest, levels);
        for (int level = 0; level <= Math.max(0, levels); level++) {
            int reason = model.explanation(level, 1);
            due("explanation(" + level + ",1)", real.explanation(level, 1), reason);
            due("explanation(" + level + ",0)", real.explanation(level, 0), model.explanation(level, 0));
            seen[reason > 0 ? reason : 0]++;
        }
    }

    private static void readAnyText(Random random) {
        String signs = "mfkcsdr(),-|$012345679x";
        ModelTest run = new ModelTest(random.nextInt());
        StringBuilder text = new StringBuilder(run.pipeline());
        for (int edits = random.nextInt(4); edits > 0; edits--) {
            int at = random.nextInt(text.length() + 1);
            char sign = signs.charAt(random.nextInt(signs.length()));
            if (random.nextBoolean() || at == text.length()) {
                text.insert(at, sign);
            } else if (random.nextBoolean()) {
                text.setCharAt(at, sign);
            } else {
                text.deleteCharAt(at);
            }
        }
        run.type(text.length() > 60 ? text.substring(0, 60) : text.toString());
        run.due("readPipeline()", run.real.readPipeline(), run.model.readPipeline());
        run.due("write()", run.real.write(), run.model.write());
        for (int i = 0; i < run.model.written.length(); i++) {
            run.due("written(" + i + ")", run.real.written(i), run.model.written(i));
        }
    }

    private void due(String call, int got, int want) {
        calls++;
        story.append(' ').append(call);
        if (got != want) {
            wrong++;
            System.out.println(story + "\n  " + call + " answered " + got + ", the model says " + want);
        }
    }
}
