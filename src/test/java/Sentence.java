import java.lang.annotation.Retention;
import java.lang.annotation.RetentionPolicy;

/** The words of the document that a test stands for, and the promise that has them (0: the terms). */
@Retention(RetentionPolicy.RUNTIME)
@interface Sentence {
    int promise() default 0;

    String words();
}
