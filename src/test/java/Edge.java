import java.lang.annotation.ElementType;
import java.lang.annotation.Retention;
import java.lang.annotation.RetentionPolicy;
import java.lang.annotation.Target;

/** Marks the test of one boundary case, and says which words of the document it holds the class to. */
@Retention(RetentionPolicy.RUNTIME)
@Target(ElementType.METHOD)
@interface Edge {
    /** The number of the promise, or 0 for the section "Terms". */
    int promise();

    /** The words, as they stand in that section of the document. */
    String says();
}
