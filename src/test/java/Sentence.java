import java.lang.annotation.ElementType;
import java.lang.annotation.Retention;
import java.lang.annotation.RetentionPolicy;
import java.lang.annotation.Target;

/** The sentence of the document that a test is for, or the part of one, in the document's words. */
@Retention(RetentionPolicy.RUNTIME)
@Target(ElementType.METHOD)
@interface Sentence {

    /** The promise under which it stands; 0 if it stands ahead of all promises. */
    int promise() default 0;

    String value();
}
