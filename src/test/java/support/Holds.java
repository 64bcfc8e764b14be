import java.lang.annotation.ElementType;
import java.lang.annotation.Retention;
import java.lang.annotation.RetentionPolicy;
import java.lang.annotation.Target;

/**
 * The promise and the sentence of ../shared/DOC.md that a test holds the class to. The words must
 * stand in the promise's own part or, if not there, once ahead of Promise 1.
 */
@Retention(RetentionPolicy.RUNTIME)
@Target(ElementType.METHOD)
@interface Holds {
    int promise();

    String says();
}
