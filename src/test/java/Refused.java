import java.util.ArrayList;
import java.util.HashMap;
import java.util.List;
import java.util.Map;
import java.util.stream.IntStream;

/**
 * Calls that are refused: the error must be the one that is due, and every
 * later call must answer as if the refused one had not been made. What that is
 * is told by a twin, made in the same way, on which it was not made.
 */
final class Refused {
    /** A call on an object in the state of a world. */
    interface Call {
        long on(CaveLegs x, World w);
    }

    /** A call with one argument that is tried at several values. */
    interface CallWith {
        long on(CaveLegs x, World w, int v);
    }

    /** Later calls; each tail begins with an object of its own, to stay below 512 calls. */
    private interface Tail {
        void tell(Told t);
    }

    private static final List<Tail> TAILS = List.of(
        Refused::asked, Refused::chances, Refused::undone, Refused::kept, Refused::written, Refused::seen, Refused::acted);

    private static final int MOST_CALLS_OF_A_TAIL = 300;

    private static final Map<String, List<String>> UNTOUCHED = new HashMap<>();

    private Refused() {
    }

    static void check(String name, long error, Call call, World... worlds) {
        for (World w : worlds) {
            for (int tail = 0; tail < TAILS.size(); tail++) {
                CaveLegs x = w.make();
                for (int time = 0; time < 2; time++) {
                    Check.due(name + " in the world " + w, call.on(x, w), error);
                }
                compare(name + " in the world " + w, told(x, tail), untouched(w, tail));
            }
        }
    }

    static void everywhere(String name, long error, Call call) {
        check(name, error, call, World.values());
    }

    /** The call is refused for all values beyond least and most, near and far. */
    static void beyond(String name, int least, int most, long error, CallWith call, World... worlds) {
        for (int v : around(least, most)) {
            check(name + " of " + v, error, (x, w) -> call.on(x, w, v), worlds);
        }
    }

    static void beyondEverywhere(String name, int least, int most, long error, CallWith call) {
        beyond(name, least, most, error, call, World.values());
    }

    static void noSuchStation(String name, CallWith call) {
        for (World w : World.values()) {
            beyond(name + " with the station", 0, w.stations - 1, CaveLegs.UNKNOWN, call, w);
        }
    }

    static void noSuchLeg(String name, CallWith call) {
        for (World w : World.values()) {
            beyond(name + " with the leg", 0, w.legs - 1, CaveLegs.UNKNOWN, call, w);
        }
    }

    /** Next to the range, far off, and where bits beyond the lowest 5, 8 or 16 would get lost. */
    private static int[] around(int least, int most) {
        return IntStream.of(least - 1, most + 1, Integer.MIN_VALUE, Integer.MAX_VALUE,
                least + 32, least + 64, least + 256, least + 65536, least - 32, least - 256)
            .filter(v -> v < least || v > most).distinct().toArray();
    }

    private static List<String> untouched(World w, int tail) {
        return UNTOUCHED.computeIfAbsent(w + " " + tail, key -> told(w.make(), tail));
    }

    private static List<String> told(CaveLegs x, int tail) {
        Told t = new Told(x);
        TAILS.get(tail).tell(t);
        Check.isTrue("a tail of " + t.answers.size() + " calls", t.answers.size() <= MOST_CALLS_OF_A_TAIL);
        return t.answers;
    }

    private static void compare(String name, List<String> got, List<String> want) {
        for (int k = 0; k < want.size(); k++) {
            if (!got.get(k).equals(want.get(k))) {
                System.out.println(name + ", later " + got.get(k) + ", but without it " + want.get(k));
                break;
            }
        }
        Check.isTrue(name + " leaves later answers as they were", got.equals(want));
    }

    /** An object with the answers that it gave. */
    private static final class Told {
        final CaveLegs x;
        final List<String> answers = new ArrayList<>();

        Told(CaveLegs x) {
            this.x = x;
        }

        void add(String call, long answer) {
            answers.add(call + " answered " + answer);
        }

        void counts() {
            for (int what = 0; what <= 5; what++) {
                add("count(" + what + ")", x.count(what));
            }
        }

        void legs() {
            int size = x.count(2);
            add("count(2)", size);
            for (int leg = 0; leg < size; leg++) {
                for (int what = 0; what <= 6; what++) {
                    add("leg(" + leg + ", " + what + ")", x.leg(leg, what));
                }
            }
        }
    }

    private static void asked(Told t) {
        t.counts();
        t.legs();
        t.add("fault()", t.x.fault());
        for (int what = 0; what < 3; what++) {
            for (int k = 0; k < 8; k++) {
                t.add("laid(" + k + ", " + what + ")", t.x.laid(k, what));
                t.add("miss(" + k + ", " + what + ")", t.x.miss(k, what));
                t.add("evened(" + k + ", " + what + ", true)", t.x.evened(k, what, true));
                t.add("rest(" + k + ", " + what + ", true)", t.x.rest(k, what, true));
                t.add("rest(" + k + ", " + what + ", false)", t.x.rest(k, what, false));
            }
        }
        t.add("squares(true)", t.x.squares(true));
        t.add("squares(false)", t.x.squares(false));
        for (int what = 0; what <= 3; what++) {
            t.add("ask(" + what + ")", t.x.ask(what));
        }
        for (int s = 0; s < 6; s++) {
            t.add("must(" + s + ")", t.x.must(s));
            for (int o = 0; o < 6; o++) {
                t.add("widest(" + s + ", " + o + ")", t.x.widest(s, o));
            }
        }
        t.add("which()", t.x.which());
    }

    private static void chances(Told t) {
        for (int k = 0; k < 8; k++) {
            t.add("share(" + k + ", true)", t.x.share(k, true));
            t.add("share(" + k + ", false)", t.x.share(k, false));
            t.add("falls(" + k + ", 2, 3, true)", t.x.falls(k, 2, 3, true));
            t.add("falls(" + k + ", 2, 3, false)", t.x.falls(k, 2, 3, false));
        }
        for (int g = 1; g <= 9; g++) {
            t.add("come(" + g + ")", t.x.come(g));
        }
        t.add("judge(3, 100041255010)", t.x.judge(3, 1000_4125_5010L));
        t.add("drawn(40)", t.x.drawn(40));
        t.add("drawn(1)", t.x.drawn(1));
        t.add("seed(7)", t.x.seed(7));
        t.add("drawn(39)", t.x.drawn(39));
        t.counts();
    }

    private static void undone(Told t) {
        for (int k = 0; k < 15; k++) {
            t.add("undo()", t.x.undo());
            t.add("count(3)", t.x.count(3));
            for (int leg = 0; leg < 8; leg++) {
                t.add("leg(" + leg + ", " + k % 2 + ")", t.x.leg(leg, k % 2));
            }
        }
        t.counts();
        t.legs();
    }

    private static void kept(Told t) {
        for (int k = 0; k < 3; k++) {
            t.add("again(" + k % 2 + ")", t.x.again(k % 2));
            t.counts();
            t.legs();
        }
        t.add("undo()", t.x.undo());
    }

    private static void written(Told t) {
        t.add("write('l')", t.x.write('l'));
        t.add("fault()", t.x.fault());
        for (char c : "C4l0110321".toCharArray()) {
            t.add("write(" + c + ")", t.x.write(c));
        }
        t.add("fault()", t.x.fault());
        t.add("cave()", t.x.cave());
        t.counts();
        t.add("wipe()", t.x.wipe());
        for (char c : "C6l0110321l4510326".toCharArray()) {
            t.add("write(" + c + ")", t.x.write(c));
        }
        t.add("cave()", t.x.cave());
        t.counts();
        t.legs();
        t.add("which()", t.x.which());
        t.add("undo()", t.x.undo());
        t.add("again(0)", t.x.again(0));
        t.add("again(1)", t.x.again(1));
    }

    private static void seen(Told t) {
        t.add("which()", t.x.which());
        for (int k = 0; k < 8; k++) {
            t.add("fall(" + k + ")", t.x.fall(k));
            t.add("which()", t.x.which());
            t.add("fall(" + k + ")", t.x.fall(k));
        }
        for (int k = 0; k < 7; k++) {
            t.add("see(0, 0, 9, 0)", t.x.see(0, 0, 9, 0));
            t.add("which()", t.x.which());
        }
        t.add("unsee()", t.x.unsee());
        t.add("which()", t.x.which());
        t.counts();
    }

    private static void acted(Told t) {
        t.add("measure(0, 1, 9, 9, 1, 9)", t.x.measure(0, 1, 9, 9, 1, 9));
        t.add("take(2)", t.x.take(2));
        t.add("measure(1, 0, 19, 1, 4, 3)", t.x.measure(1, 0, 19, 1, 4, 3));
        t.add("read(0, 2, 4)", t.x.read(0, 2, 4));
        t.add("fall(1)", t.x.fall(1));
        t.add("keep(1)", t.x.keep(1));
        t.counts();
        t.legs();
        for (int k = 0; k < 15; k++) {
            t.add("undo()", t.x.undo());
        }
        t.counts();
        t.legs();
        t.add("again(1)", t.x.again(1));
        t.legs();
        t.add("drawn(17)", t.x.drawn(17));
        t.add("seed(0)", t.x.seed(0));
    }
}
