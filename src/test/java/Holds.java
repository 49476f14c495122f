import java.lang.annotation.ElementType;
import java.lang.annotation.Retention;
import java.lang.annotation.RetentionPolicy;
import java.lang.annotation.Target;

/** The sentence of the document that a test of a boundary holds; the test's own name tells the boundary. */
@Retention(RetentionPolicy.RUNTIME)
@Target(ElementType.METHOD)
@interface Holds {
    /** The promise or the section, as DOC.md names it. */
    String at();

    /** A few words of the sentence, as they stand there. */
    String says();
}
