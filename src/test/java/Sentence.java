import java.lang.annotation.ElementType;
import java.lang.annotation.Retention;
import java.lang.annotation.RetentionPolicy;
import java.lang.annotation.Target;

/**
 * Which sentence of DOC.md a test belongs to: that of a promise (the test's name begins with p and
 * its two digits) or of a part (part and its digit; 0 is what stands ahead of the terms). EdgeTest
 * looks for the very words there.
 */
@Retention(RetentionPolicy.RUNTIME)
@Target(ElementType.METHOD)
@interface Sentence {
    String value();
}
