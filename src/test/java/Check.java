/** Counts and prints the answers that are not as due; a test ends with end(). */
final class Check {
    private static int made = 0;
    private static int wrong = 0;

    private Check() {
    }

    static void due(String what, long got, long want) {
        made++;
        if (got != want) {
            wrong++;
            System.out.println(what + " answered " + got + ", due is " + want);
        }
    }

    static void isTrue(String what, boolean holds) {
        due(what, holds ? 1 : 0, 1);
    }

    /** A new object that has read the text, which must describe a cave. */
    static CaveLegs caveOf(String text) {
        CaveLegs x = new CaveLegs();
        write(x, text);
        due("legs of " + text, x.cave(), (text.length() - 2) / 8);
        return x;
    }

    static void write(CaveLegs x, String text) {
        for (int i = 0; i < text.length(); i++) {
            x.write(text.charAt(i));
        }
    }

    static boolean anyWrong() {
        return wrong > 0;
    }

    static void end() {
        System.out.println(made + " answers looked at, " + wrong + " not as due");
        if (wrong > 0) {
            System.exit(1);
        }
    }
}
