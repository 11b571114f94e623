import java.lang.annotation.Retention;
import java.lang.annotation.RetentionPolicy;

/** Marks a method that is a test. */
@Retention(RetentionPolicy.RUNTIME)
@interface Test {
}
