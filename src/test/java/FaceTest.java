import java.lang.reflect.Modifier;

/** The public face of the class. */
public final class FaceTest {
    public static void main(String[] args) {
        if (!Modifier.isFinal(CountingRegex.class.getModifiers())) {
            System.exit(1);
        }
    }
}
