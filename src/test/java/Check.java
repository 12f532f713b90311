import java.util.Arrays;

/** Counts what is not as due; a test ends with it. */
final class Check {
    private static int looked;
    private static int wrong;
    private static String sentence = "";

    private Check() {
    }

    /** The words of the document that the answers from here on belong to: a fault is told with them. */
    static void sentence(String words) {
        sentence = "\"" + words + "\": ";
    }

    static void due(String what, long got, long want) {
        looked++;
        if (got != want) {
            tell(what + " answered " + got + ", due is " + want);
        }
    }

    static void due(String what, byte[] got, byte[] want) {
        looked++;
        if (!Arrays.equals(got, want)) {
            tell(what + " answered " + Arrays.toString(got) + ", due is " + Arrays.toString(want));
        }
    }

    static void due(String what, String got, String want) {
        looked++;
        if (!got.equals(want)) {
            tell(what + ": it is\n    " + got + "\n  due is\n    " + want);
        }
    }

    private static void tell(String fault) {
        wrong++;
        if (wrong <= 40) {
            System.out.println(sentence + fault);
        }
    }

    static boolean anyWrong() {
        return wrong > 0;
    }

    static void end() {
        System.out.println(looked + " answers looked at, " + wrong + " not as due");
        if (wrong != 0 || looked == 0) {
            System.exit(1);
        }
    }
}
