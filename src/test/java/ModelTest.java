import java.util.ArrayList;
import java.util.List;
import java.util.Random;

/** Long runs of drawn calls, each answered by the class and by the model. */
public final class ModelTest {
    private static final int RUNS = 1500;
    private static final int MOST_CALLS = 512;

    private final Random random;
    private final CaveLegs x = new CaveLegs();
    private final Model model = new Model();
    private final List<String> told = new ArrayList<>();
    private boolean wrong = false;

    private ModelTest(long seed) {
        random = new Random(seed);
    }

    public static void main(String[] args) {
        for (int run = 0; run < RUNS && !Check.anyWrong(); run++) {
            new ModelTest(run).play(run);
        }
        Check.end();
    }

    private void play(int run) {
        // a turn is at most the writing of a cave, which is fewer than 100 calls
        int calls = 100 + random.nextInt(MOST_CALLS - 200);
        writeCave();
        while (told.size() < calls && !wrong) {
            call();
        }
        if (wrong) {
            System.out.println("run " + run + ":");
            told.forEach(System.out::println);
        }
    }

    private void same(String call, long got, long want) {
        told.add("  " + call + " answered " + got);
        Check.due(call, got, want);
        wrong |= got != want;
    }

    /** Mostly from the range, at times a little beyond it, seldom far off. */
    private int in(int least, int most) {
        int luck = random.nextInt(60);
        if (luck == 0) {
            return new int[] {least - 1, most + 1, Integer.MIN_VALUE, Integer.MAX_VALUE, -7, 31, 32}[random.nextInt(7)];
        }
        return least + random.nextInt(most - least + 1);
    }

    private int station() {
        return in(0, Math.max(0, model.count(1) - 1));
    }

    private int leg() {
        return in(0, Math.max(0, model.count(2) - 1));
    }

    /** Few different measurements, so that loops close and square sums tie. */
    private int tape() {
        return random.nextInt(3) == 0 ? in(1, 99) : 10 * (1 + random.nextInt(2));
    }

    private int bearing() {
        return random.nextInt(2) == 0 ? in(0, 11) : 3 * random.nextInt(4);
    }

    private int slope() {
        return random.nextInt(2) == 0 ? in(0, 4) : 2;
    }

    private String caveText() {
        int n = 1 + random.nextInt(6);
        StringBuilder s = new StringBuilder("C").append(n);
        int legs = n == 1 ? random.nextInt(20) / 19 : random.nextInt(80) == 0 ? 9 : random.nextInt(9);
        for (int k = 0; k < legs; k++) {
            int from = random.nextInt(n);
            int to = (from + 1 + random.nextInt(Math.max(1, n - 1))) % n;
            s.append('l').append(from).append(to).append(String.format("%02d", Math.floorMod(tape() - 1, 99) + 1));
            s.append("0123456789ab".charAt(Math.floorMod(bearing(), 12))).append(Math.floorMod(slope(), 5));
            s.append(1 + random.nextInt(9));
        }
        if (random.nextInt(4) == 0) {
            String odd = "Cl0123456789abc LAB\u00b2/:`";
            s.setCharAt(random.nextInt(s.length()), odd.charAt(random.nextInt(odd.length())));
        }
        if (random.nextInt(12) == 0) {
            s.setLength(random.nextInt(s.length()));
        }
        return s.toString();
    }

    private void writeCave() {
        same("wipe()", x.wipe(), model.wipe());
        for (char c : caveText().toCharArray()) {
            same("write(" + (int) c + ")", x.write(c), model.write(c));
        }
        same("fault()", x.fault(), model.fault());
        same("cave()", x.cave(), model.cave());
    }

    private void call() {
        int kind = random.nextInt(100);
        if (kind < 1) {
            writeCave();
        } else if (kind < 30) {
            act();
        } else if (kind < 60) {
            askSurvey();
        } else if (kind < 85) {
            askPassages();
        } else {
            askChances();
        }
    }

    private void act() {
        int a = leg();
        int b = in(0, 3);
        switch (random.nextInt(12)) {
            case 0, 1, 2, 3 -> measure();
            case 4 -> same("take(" + a + ")", x.take(a), model.take(a));
            case 5, 6 -> {
                int v = b == 0 ? tape() : b == 1 ? bearing() : b == 2 ? slope() : in(1, 9);
                same("read(" + a + ", " + b + ", " + v + ")", x.read(a, b, v), model.read(a, b, v));
            }
            case 7, 8 -> same("fall(" + a + ")", x.fall(a), model.fall(a));
            case 9 -> undo();
            case 10 -> {
                int slot = in(0, 1);
                if (random.nextInt(4) == 0) {
                    same("again(" + slot + ")", x.again(slot), model.again(slot));
                } else {
                    same("keep(" + slot + ")", x.keep(slot), model.keep(slot));
                }
            }
            default -> {
                int letter = in(0, 255);
                same("write(" + letter + ")", x.write(letter), model.write(letter));
            }
        }
    }

    private void undo() {
        int times = random.nextInt(6) == 0 ? 16 : 1;
        for (int k = 0; k < times; k++) {
            same("undo()", x.undo(), model.undo());
        }
    }

    private void measure() {
        int[] m = {station(), station(), tape(), bearing(), slope(), in(1, 9)};
        String call = "measure(" + m[0] + ", " + m[1] + ", " + m[2] + ", " + m[3] + ", " + m[4] + ", " + m[5] + ")";
        same(call, x.measure(m[0], m[1], m[2], m[3], m[4], m[5]), model.measure(m[0], m[1], m[2], m[3], m[4], m[5]));
    }

    private void askSurvey() {
        int s = station();
        int l = leg();
        int c = in(0, 2);
        boolean u = random.nextBoolean();
        switch (random.nextInt(8)) {
            case 0 -> same("laid(" + s + ", " + c + ")", x.laid(s, c), model.laid(s, c));
            case 1 -> same("miss(" + l + ", " + c + ")", x.miss(l, c), model.miss(l, c));
            case 2 -> same("evened(" + s + ", " + c + ", " + u + ")", x.evened(s, c, u), model.evened(s, c, u));
            case 3 -> same("rest(" + l + ", " + c + ", " + u + ")", x.rest(l, c, u), model.rest(l, c, u));
            case 4 -> same("squares(" + u + ")", x.squares(u), model.squares(u));
            case 5 -> {
                int what = in(0, 9);
                same("leg(" + l + ", " + what + ")", x.leg(l, what), model.leg(l, what));
            }
            case 6 -> {
                int what = in(0, 5);
                same("count(" + what + ")", x.count(what), model.count(what));
            }
            default -> {
                int what = in(0, 3);
                same("ask(" + what + ")", x.ask(what), model.ask(what));
            }
        }
    }

    private void askPassages() {
        int a = station();
        int b = station();
        int g = in(1, 9);
        switch (random.nextInt(8)) {
            case 0 -> same("widest(" + a + ", " + b + ")", x.widest(a, b), model.widest(a, b));
            case 1 -> same("come(" + g + ")", x.come(g), model.come(g));
            case 2 -> same("must(" + a + ")", x.must(a), model.must(a));
            case 3, 4 -> judge();
            case 5 -> {
                int v = in(0, 10);
                int was = in(0, 1);
                same("see(" + a + ", " + b + ", " + v + ", " + was + ")", x.see(a, b, v, was), model.see(a, b, v, was));
            }
            case 6 -> {
                if (random.nextInt(3) == 0) {
                    same("unsee()", x.unsee(), model.unsee());
                }
            }
            default -> same("which()", x.which(), model.which());
        }
    }

    private int digit(int most) {
        return random.nextInt(12) == 0 ? random.nextInt(10) : random.nextInt(most + 1);
    }

    private void judge() {
        int n = in(1, 4);
        long row = 0;
        for (int k = 0; k < Math.min(Math.max(n, 1), 4); k++) {
            row = 10000 * row + item();
        }
        if (random.nextInt(30) == 0) {
            row = random.nextBoolean() ? random.nextLong() : row * 10;
        }
        same("judge(" + n + ", " + row + ")", x.judge(n, row), model.judge(n, row));
    }

    private int item() {
        int last = Math.max(0, model.count(2) - 1);
        int far = model.count(1) - 1;
        int h = random.nextInt(20) == 0 ? random.nextInt(10) : 1 + random.nextInt(7);
        int loops = Math.min(99, Math.max(0, model.ask(1) - random.nextInt(2)));
        return 1000 * h + switch (h) {
            case 1, 2, 6 -> 100 * digit(last) + (random.nextInt(15) == 0 ? random.nextInt(100) : 0);
            case 3 -> 100 * digit(last) + 10 * digit(2) + digit(0);
            case 4 -> 100 * digit(far) + 10 * digit(far) + digit(5);
            case 5 -> 10 * loops + (random.nextInt(15) == 0 ? 1 : 0);
            case 7 -> 100 * digit(far) + 10 * digit(9) + digit(1);
            default -> random.nextInt(1000);
        };
    }

    private void askChances() {
        int l = leg();
        int s = station();
        boolean u = random.nextBoolean();
        switch (random.nextInt(6)) {
            case 0 -> {
                int g = in(1, 9);
                int t = in(0, 10);
                same("falls(" + s + ", " + g + ", " + t + ", " + u + ")", x.falls(s, g, t, u), model.falls(s, g, t, u));
            }
            case 1 -> {
                long v = random.nextLong();
                same("seed(" + v + ")", x.seed(v), model.seed(v));
            }
            case 2, 3 -> {
                int m = in(1, 40);
                same("drawn(" + m + ")", x.drawn(m), model.drawn(m));
            }
            default -> same("share(" + l + ", " + u + ")", x.share(l, u), model.share(l, u));
        }
    }
}
