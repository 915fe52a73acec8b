/**
 * The boundary cases of promises 25 to 28 and 31. Each method is a sentence of
 * the document, at the last value that is allowed and the first one that is not.
 */
public final class EdgesOfChancesTest {
    private static final String LEG = "l0110321";

    /** 0-1-2-3-4-5, a leg after the other. */
    private static final String CHAIN = "C6l0110321l1210321l2310321l3410321l4510321";

    private static final long FACTOR = 6364136223846793005L;
    private static final long TERM = 1442695040888963407L;

    public static void main(String[] args) {
        shareRefusesUnknownLegs();
        shareRefusesCollapsedLegs();
        sharesFrom0ToFive();
        sharesOfEightLegs();
        collapsedLegsDoNotMatterForShares();
        narrowLegsCountForShares();
        fallsRefusesUnknownStations();
        fallsRefusesGirths();
        fallsRefusesTenths();
        fallsIsUnknownBeforeOutside();
        noLegCollapsesWithProbability0();
        eachLegCollapsesWithProbability1();
        theEntranceIsReachedForCertain();
        fallsOfEachTenth();
        fallsOfJustTheGirth();
        fallsOfEightLegs();
        collapsedLegsStayCollapsed();
        seedIsAnyLong();
        stepsAreFrom1To40();
        theSeedOverflows();
        theWalkBeginsAtTheEntranceEachTime();
        aWalkWithoutLegs();
        aWalkOverOneLeg();
        theLegIsDrawnByR();
        collapsedLegsAreDrawnButNotWalked();
        legsElsewhereAreNotWalked();
        drawnChangesTheSeedAlone();
        countWhatIsFrom0To5();
        countsAtTheirGreatest();
        questionsChangeNothing();
        Check.end();
    }

    private static void due(String what, long got, long want) {
        Check.due(what, got, want);
    }

    // ---- promise 25

    private static void share(CaveLegs x, int leg, int top, int bottom) {
        due("25 numerator of " + leg, x.share(leg, true), top);
        due("25 denominator of " + leg, x.share(leg, false), bottom);
    }

    private static void shareRefusesUnknownLegs() {
        Refused.noSuchLeg("25 share", (x, w, v) -> x.share(v, true));
        Refused.noSuchLeg("25 share, below", (x, w, v) -> x.share(v, false));
    }

    private static void shareRefusesCollapsedLegs() {
        World[] worlds = {World.RICH, World.FULL};
        Refused.check("25 share", CaveLegs.STATE, (x, w) -> x.share(w.fallenLeg, true), worlds);
        Refused.check("25 share, below", CaveLegs.STATE, (x, w) -> x.share(w.fallenLeg, false), worlds);
        CaveLegs x = Check.caveOf("C2" + LEG.repeat(8));
        for (int leg = 0; leg < 8; leg++) {
            share(x, leg, 1, 8 - leg);
            x.fall(leg);
            due("25 a collapsed leg", x.share(leg, true), CaveLegs.STATE);
            due("25 a collapsed leg, below", x.share(leg, false), CaveLegs.STATE);
        }
        x.fall(3);
        share(x, 3, 1, 1);
    }

    private static void sharesFrom0ToFive() {
        share(Check.caveOf("C3l1210321"), 0, 0, 1);
        share(Check.caveOf("C2" + LEG), 0, 1, 1);
        // the station at k is opened by the last of k legs: 1 + 1/2 + 1/3 + 1/4 + 1/5, and less
        CaveLegs x = Check.caveOf(CHAIN);
        share(x, 0, 137, 60);
        share(x, 1, 77, 60);
        share(x, 2, 47, 60);
        share(x, 3, 9, 20);
        share(x, 4, 1, 5);
        // a star: a station for each
        CaveLegs star = Check.caveOf("C6l0110321l2010321l0310321l4010321l0510321");
        for (int leg = 0; leg < 5; leg++) {
            share(star, leg, 1, 1);
        }
        // 0-5-4-3-2-1 against the legs, leg 4 next to the entrance
        CaveLegs back = Check.caveOf("C6l1210321l2310321l3410321l4510321l5010321");
        share(back, 4, 137, 60);
        share(back, 0, 1, 5);
    }

    private static void sharesOfEightLegs() {
        CaveLegs x = Check.caveOf("C2" + LEG.repeat(8));
        share(x, 0, 1, 8);
        share(x, 7, 1, 8);
        // legs that open nothing change no share
        CaveLegs far = Check.caveOf("C4l0110321" + "l2310321".repeat(7));
        share(far, 0, 1, 1);
        share(far, 7, 0, 1);
        // seven legs to station 1, one from there to station 2: it adds if it is not the first
        CaveLegs y = Check.caveOf("C3" + LEG.repeat(7) + "l1210321");
        share(y, 7, 7, 8);
        share(y, 0, 9, 56);
        x.take(0);
        share(x, 6, 1, 7);
    }

    private static void collapsedLegsDoNotMatterForShares() {
        CaveLegs x = Check.caveOf("C3l0110321l1210321l0210321");
        x.fall(2);
        share(x, 0, 3, 2);
        share(x, 1, 1, 2);
        x.fall(0);
        share(x, 1, 0, 1);
        x.fall(2);
        share(x, 1, 1, 2);
        share(x, 2, 3, 2);
    }

    private static void narrowLegsCountForShares() {
        share(Check.caveOf("C2l0110321l0110329"), 0, 1, 2);
        share(Check.caveOf("C2l0110321l0110329"), 1, 1, 2);
    }

    // ---- promise 26

    private static void falls(CaveLegs x, int station, int g, int tenths, int top, int bottom) {
        String name = " for " + station + ", " + g + ", " + tenths;
        due("26 numerator" + name, x.falls(station, g, tenths, true), top);
        due("26 denominator" + name, x.falls(station, g, tenths, false), bottom);
    }

    private static void fallsRefusesUnknownStations() {
        Refused.noSuchStation("26 falls", (x, w, v) -> x.falls(v, 1, 5, true));
        Refused.noSuchStation("26 falls, below", (x, w, v) -> x.falls(v, 1, 5, false));
    }

    private static void fallsRefusesGirths() {
        Refused.beyondEverywhere("26 girth", 1, 9, CaveLegs.OUTSIDE, (x, w, v) -> x.falls(0, v, 5, true));
        Refused.beyondEverywhere("26 girth, below", 1, 9, CaveLegs.OUTSIDE, (x, w, v) -> x.falls(w.stations - 1, v, 5, false));
    }

    private static void fallsRefusesTenths() {
        Refused.beyondEverywhere("26 tenths", 0, 10, CaveLegs.OUTSIDE, (x, w, v) -> x.falls(0, 1, v, true));
        Refused.beyondEverywhere("26 tenths, below", 0, 10, CaveLegs.OUTSIDE, (x, w, v) -> x.falls(w.stations - 1, 9, v, false));
    }

    private static void fallsIsUnknownBeforeOutside() {
        Refused.noSuchStation("26 unknown before the girth", (x, w, v) -> x.falls(v, 0, 5, true));
        Refused.noSuchStation("26 unknown before the girth above", (x, w, v) -> x.falls(v, 10, 5, false));
        Refused.noSuchStation("26 unknown before the tenths", (x, w, v) -> x.falls(v, 1, -1, true));
        Refused.noSuchStation("26 unknown before the tenths above", (x, w, v) -> x.falls(v, 1, 11, false));
    }

    private static void noLegCollapsesWithProbability0() {
        CaveLegs x = Check.caveOf(CHAIN);
        falls(x, 5, 1, 0, 1, 1);
        falls(x, 5, 2, 0, 0, 1);
        x.fall(4);
        falls(x, 5, 1, 0, 0, 1);
        falls(x, 4, 1, 0, 1, 1);
        falls(Check.caveOf("C2"), 1, 1, 0, 0, 1);
    }

    private static void eachLegCollapsesWithProbability1() {
        CaveLegs x = Check.caveOf("C2" + LEG.repeat(8));
        falls(x, 1, 1, 10, 0, 1);
        falls(x, 0, 1, 10, 1, 1);
        falls(Check.caveOf(CHAIN), 1, 1, 10, 0, 1);
    }

    private static void theEntranceIsReachedForCertain() {
        CaveLegs x = Check.caveOf("C2" + LEG.repeat(8));
        for (int tenths = 0; tenths <= 10; tenths++) {
            falls(new CaveLegs(), 0, 9, tenths, 1, 1);
            falls(x, 0, 1, tenths, 1, 1);
            falls(x, 0, 9, tenths, 1, 1);
        }
    }

    private static void fallsOfEachTenth() {
        CaveLegs x = Check.caveOf("C3l0110321l1210321");
        int[] one = {1, 9, 4, 7, 3, 1, 2, 3, 1, 1, 0};
        int[] oneOf = {1, 10, 5, 10, 5, 2, 5, 10, 5, 10, 1};
        int[] two = {1, 81, 16, 49, 9, 1, 4, 9, 1, 1, 0};
        int[] twoOf = {1, 100, 25, 100, 25, 4, 25, 100, 25, 100, 1};
        for (int tenths = 0; tenths <= 10; tenths++) {
            falls(x, 1, 1, tenths, one[tenths], oneOf[tenths]);
            falls(x, 2, 1, tenths, two[tenths], twoOf[tenths]);
        }
    }

    private static void fallsOfJustTheGirth() {
        for (int width = 1; width <= 9; width++) {
            CaveLegs x = Check.caveOf("C2l011032" + width);
            for (int g = 1; g <= 9; g++) {
                falls(x, 1, g, 3, g <= width ? 7 : 0, g <= width ? 10 : 1);
            }
        }
        // two legs, of which the narrow one is no help for girth 2
        CaveLegs two = Check.caveOf("C2l0110321l0110322");
        falls(two, 1, 1, 5, 3, 4);
        falls(two, 1, 2, 5, 1, 2);
        falls(two, 1, 3, 5, 0, 1);
    }

    private static void fallsOfEightLegs() {
        CaveLegs x = Check.caveOf("C2" + LEG.repeat(8));
        falls(x, 1, 1, 1, 99999999, 100000000);
        falls(x, 1, 1, 9, 56953279, 100000000);
        falls(x, 1, 1, 5, 255, 256);
        x.fall(7);
        falls(x, 1, 1, 1, 9999999, 10000000);
        // 0-1 three times, 1-2 five times
        CaveLegs y = Check.caveOf("C3" + LEG.repeat(3) + "l1210321".repeat(5));
        falls(y, 2, 1, 5, 7 * 31, 256);
        falls(y, 2, 1, 1, 99899001, 100000000);
    }

    private static void collapsedLegsStayCollapsed() {
        CaveLegs x = Check.caveOf("C2" + LEG + LEG);
        falls(x, 1, 1, 5, 3, 4);
        x.fall(0);
        falls(x, 1, 1, 5, 1, 2);
        falls(x, 1, 1, 0, 1, 1);
        x.fall(1);
        falls(x, 1, 1, 5, 0, 1);
        falls(x, 1, 1, 10, 0, 1);
    }

    // ---- promise 27

    private static void seedIsAnyLong() {
        CaveLegs x = new CaveLegs();
        long[] seeds = {Long.MIN_VALUE, Long.MAX_VALUE, -1, 1, -9, 1L << 32, -(1L << 32), Integer.MIN_VALUE, Integer.MAX_VALUE, 0};
        long previous = 0;
        for (long seed : seeds) {
            due("27 the previous seed", x.seed(seed), previous);
            previous = seed;
        }
        due("27 the last one", x.seed(5), 0);
    }

    // ---- promise 28

    /** The seed after some steps. */
    private static long after(long seed, int steps) {
        long s = seed;
        for (int k = 0; k < steps; k++) {
            s = s * FACTOR + TERM;
        }
        return s;
    }

    private static void stepsAreFrom1To40() {
        CaveLegs x = Check.caveOf("C2" + LEG);
        due("28 one step", x.drawn(1), 1);
        due("28 the seed after one", x.seed(0), after(0, 1));
        due("28 forty steps", x.drawn(40), 20);
        due("28 the seed after forty", x.seed(0), after(0, 40));
        Refused.beyondEverywhere("28 drawn", 1, 40, CaveLegs.OUTSIDE, (y, w, v) -> y.drawn(v));
    }

    private static void theSeedOverflows() {
        long[] seeds = {0, 1, -1, Long.MIN_VALUE, Long.MAX_VALUE, 1L << 62};
        long[] next = {1442695040888963407L, 7806831264735756412L, -4921441182957829598L, -7780676995965812401L,
            4301930853896946210L, 6054381059316351311L};
        for (int k = 0; k < seeds.length; k++) {
            CaveLegs x = new CaveLegs();
            x.seed(seeds[k]);
            x.drawn(1);
            due("28 the seed after " + seeds[k], x.seed(0), next[k]);
        }
    }

    private static void theWalkBeginsAtTheEntranceEachTime() {
        CaveLegs x = Check.caveOf("C2" + LEG);
        for (int k = 0; k < 5; k++) {
            due("28 one step", x.drawn(1), 1);
        }
        due("28 three steps", x.drawn(3), 2);
        due("28 three steps again", x.drawn(3), 2);
    }

    private static void aWalkWithoutLegs() {
        for (int m = 1; m <= 40; m++) {
            CaveLegs x = Check.caveOf("C6");
            x.seed(m);
            due("28 no legs", x.drawn(m), 0);
            due("28 the seed goes on", x.seed(0), after(m, m));
        }
        due("28 one station", new CaveLegs().drawn(40), 0);
    }

    private static void aWalkOverOneLeg() {
        for (int m = 1; m <= 40; m++) {
            due("28 to and fro", Check.caveOf("C2" + LEG).drawn(m), (m + 1) / 2);
            due("28 fro and to", Check.caveOf("C2l1010321").drawn(m), (m + 1) / 2);
        }
    }

    /** A star: the first step tells whether leg r modulo the number of legs is the open one. */
    private static void theLegIsDrawnByR() {
        for (int legs = 1; legs <= 8; legs++) {
            for (long seed : new long[] {0, 1, 2, 3, -1, -2, Long.MAX_VALUE, Long.MIN_VALUE, 77, 1234567}) {
                long r = after(seed, 1) >>> 33;
                for (int open = 0; open < legs; open++) {
                    CaveLegs x = Check.caveOf("C2" + LEG.repeat(legs));
                    for (int leg = 0; leg < legs; leg++) {
                        if (leg != open) {
                            x.fall(leg);
                        }
                    }
                    x.seed(seed);
                    due("28 leg " + open + " of " + legs, x.drawn(1), r % legs == open ? 1 : 0);
                }
            }
        }
    }

    private static void collapsedLegsAreDrawnButNotWalked() {
        CaveLegs x = Check.caveOf("C2" + LEG.repeat(8));
        for (int leg = 0; leg < 8; leg++) {
            x.fall(leg);
        }
        due("28 all collapsed", x.drawn(40), 0);
        due("28 the seed goes on", x.seed(0), after(0, 40));
        x.fall(0);
        long seed = 0;
        int at = 0;
        int away = 0;
        for (int step = 0; step < 40; step++) {
            seed = after(seed, 1);
            at = (seed >>> 33) % 8 == 0 ? 1 - at : at;
            away += at;
        }
        due("28 one of eight is open", x.drawn(40), away);
    }

    private static void legsElsewhereAreNotWalked() {
        CaveLegs x = Check.caveOf("C4" + "l2310321".repeat(8));
        due("28 no leg at the entrance", x.drawn(40), 0);
        CaveLegs narrow = Check.caveOf("C2l0101001");
        due("28 any open leg does", narrow.drawn(1), 1);
    }

    private static void drawnChangesTheSeedAlone() {
        Refused.everywhere("28 drawn, and the seed as before", 0, (x, w) -> {
            long seed = x.seed(5);
            x.drawn(40);
            due("28 the seed after forty", x.seed(seed), after(5, 40));
            return 0;
        });
    }

    // ---- promise 31

    private static void countWhatIsFrom0To5() {
        CaveLegs x = World.RICH.make();
        int[] due = {5, 5, 5, 2, 14, 3};
        for (int what = 0; what <= 5; what++) {
            due("31 count " + what, x.count(what), due[what]);
        }
        Refused.beyondEverywhere("31 count", 0, 5, CaveLegs.OUTSIDE, (y, w, v) -> y.count(v));
    }

    private static void countsAtTheirGreatest() {
        CaveLegs x = World.FULL.make();
        for (int leg = 0; leg < 7; leg++) {
            x.fall(leg);
        }
        int[] due = {70, 6, 8, 255, 14, 6};
        for (int what = 0; what <= 5; what++) {
            due("31 count " + what, x.count(what), due[what]);
        }
    }

    /** Not a refused call, but it is looked at in the same way. */
    private static void questionsChangeNothing() {
        Refused.everywhere("questions", 0, (x, w) -> {
            x.fault();
            x.leg(0, 9);
            x.laid(1, 0);
            x.miss(0, 1);
            x.evened(1, 2, true);
            x.rest(0, 0, false);
            x.squares(true);
            for (int what = 0; what <= 3; what++) {
                x.ask(what);
            }
            x.widest(0, 1);
            x.come(3);
            x.must(1);
            x.which();
            x.share(0, true);
            x.falls(1, 1, 5, false);
            x.count(4);
            return 0;
        });
    }
}
