import java.lang.annotation.ElementType;
import java.lang.annotation.Retention;
import java.lang.annotation.RetentionPolicy;
import java.lang.annotation.Target;

/** Which words of the document a test holds the program against; SentencesTest looks them up there. */
@Retention(RetentionPolicy.RUNTIME)
@Target(ElementType.METHOD)
@interface Says {
    /** The promise in whose section the words stand; 0 for the description and the constants. */
    int promise();

    /** Whole sentences or parts of them, word for word, whatever the line breaks. */
    String[] value();
}
