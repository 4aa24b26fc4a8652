import java.lang.annotation.ElementType;
import java.lang.annotation.Retention;
import java.lang.annotation.RetentionPolicy;
import java.lang.annotation.Target;

/** The promise that a test is of, and the document's own words that would not hold if it failed. */
@Retention(RetentionPolicy.RUNTIME)
@Target(ElementType.METHOD)
@interface Promise {
    int n();

    String[] says();
}
