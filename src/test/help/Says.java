import java.lang.annotation.Retention;
import java.lang.annotation.RetentionPolicy;

/** The sentence of the document that a test stands for. */
@Retention(RetentionPolicy.RUNTIME)
@interface Says {
    String value();
}
