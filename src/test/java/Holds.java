import java.lang.annotation.Retention;
import java.lang.annotation.RetentionPolicy;

/** Which sentence of the document a test holds: the section where it stands, and its words. */
@Retention(RetentionPolicy.RUNTIME)
@interface Holds {
    String in();

    String says();
}
