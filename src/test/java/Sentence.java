import java.lang.annotation.Retention;
import java.lang.annotation.RetentionPolicy;

/** The words of DOC.md (in one place, of LANGUAGE.md) that a test of an edge stands for. */
@Retention(RetentionPolicy.RUNTIME)
@interface Sentence {
    String value();
}
