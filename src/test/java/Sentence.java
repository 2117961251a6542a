import java.lang.annotation.ElementType;
import java.lang.annotation.Retention;
import java.lang.annotation.RetentionPolicy;
import java.lang.annotation.Target;

/** Says for which words of ../shared/DOC.md a test stands; SentenceTest looks whether they are there. */
@Retention(RetentionPolicy.RUNTIME)
@Target(ElementType.METHOD)
@interface Sentence {
    /** A heading inside the Description without its colon, "What it is", or "Promise n". */
    String in();

    /** The words of the document; a longer run of spaces or a new line counts as one space. */
    String says();
}
