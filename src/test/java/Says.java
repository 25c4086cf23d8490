import java.lang.annotation.Retention;
import java.lang.annotation.RetentionPolicy;

/** The words of the document that a test is for: of is the number of the promise, or 0 for the terms. */
@Retention(RetentionPolicy.RUNTIME)
@interface Says {
    int of();

    String words();
}
