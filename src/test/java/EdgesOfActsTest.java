/**
 * The boundary cases of STATIONS AND LEGS, of CHANGES, and of promises 6 to 11,
 * 29 and 30. Each method is a sentence of the document, at the last value that
 * is allowed and the first one that is not.
 */
public final class EdgesOfActsTest {
    private static final String LEG = "l0110321";

    /** The measurements 0 to 3, length, bearing, slope and width, and their ranges. */
    private static final int[] LEAST = {1, 0, 0, 1};
    private static final int[] MOST = {99, 11, 4, 9};

    public static void main(String[] args) {
        theLastStationExists();
        theLastLegExists();
        legWhatIsFrom0To9();
        legsAreUnknownBeforeOutside();
        horizontalLengths();
        theSineTableWrapsAround();
        upAndDown();
        quotientsAreTruncatedTowards0();
        vectorsAreShiftedBy100();
        measureTakesTheLastOfEachRange();
        measureRefusesUnknownStations();
        measureRefusesTheSameStation();
        measureRefusesOtherValues();
        measureRefusesANinthLeg();
        measureChecksInItsOrder();
        measureAddsAnOpenLegAfterAllOthers();
        takeRefusesUnknownLegs();
        takeMovesLaterLegsDown();
        readTakesTheLastOfEachRange();
        readRefuses();
        readOfTheSameValueIsAChange();
        fallTurnsTheLastLeg();
        fallRefusesUnknownLegs();
        theLatest14CanBeUndone();
        eachKindOfChangeIsUndone();
        undoneChangesMakeRoom();
        undoIsRefusedIfThereIsNoChange();
        otherCallsAreNoChanges();
        refusedCallsAreNoChanges();
        slotsAre0And1();
        anEmptySlotIsRefused();
        keepingNoLegsFillsASlot();
        keepReplacesWhatWasSaved();
        againLeavesNothingToUndo();
        theSlotKeepsWhatItHas();
        the512thCallIsAnswered();
        Check.end();
    }

    private static void due(String what, long got, long want) {
        Check.due(what, got, want);
    }

    // ---- stations and legs

    private static void theLastStationExists() {
        for (int n = 1; n <= 6; n++) {
            CaveLegs x = Check.caveOf("C" + n);
            int last = n - 1;
            due("laid " + last, x.laid(last, 0), last == 0 ? 1000 : CaveLegs.STATE);
            due("evened " + last, x.evened(last, 0, false), last == 0 ? 1 : CaveLegs.STATE);
            due("widest " + last, x.widest(last, 0), last == 0 ? 10 : 0);
            due("widest to " + last, x.widest(0, last), last == 0 ? 10 : 0);
            due("must " + last, x.must(last), 0);
            due("falls " + last, x.falls(last, 1, 0, true), last == 0 ? 1 : 0);
            due("see " + last, x.see(last, 0, 0, 0), 1);
            due("see to " + last, x.see(0, last, 0, 0), 2);
            due("judge " + last, x.judge(1, 4000 + 100 * last + 10 * last), CaveLegs.NONE);
            due("judge " + n, x.judge(1, 4000 + 100 * n), 0);
            due("judge to " + n, x.judge(1, 4000 + 10 * n), 0);
            due("judge of " + last, x.judge(1, 7000 + 100 * last + 10 + (last == 0 ? 1 : 0)), CaveLegs.NONE);
            due("judge of " + n, x.judge(1, 7010 + 100 * n), 0);
            if (n > 1) {
                due("measure from " + last, x.measure(last, 0, 1, 0, 0, 1), 1);
                due("measure to " + last, x.measure(0, last, 1, 0, 0, 1), 2);
            }
        }
    }

    private static void theLastLegExists() {
        for (int legs = 1; legs <= 8; legs++) {
            CaveLegs x = Check.caveOf("C2" + LEG.repeat(legs));
            int last = legs - 1;
            due("leg " + last, x.leg(last, 0), 10);
            due("miss " + last, x.miss(last, 0), 1000);
            due("rest " + last, x.rest(last, 0, true), 0);
            due("share " + last, x.share(last, false), legs);
            due("judge 1 " + last, x.judge(1, 1000 + 100 * last), CaveLegs.NONE);
            due("judge 1 " + legs, x.judge(1, 1000 + 100 * legs), 0);
            due("judge 2 " + last, x.judge(1, 2000 + 100 * last), CaveLegs.NONE);
            due("judge 2 " + legs, x.judge(1, 2000 + 100 * legs), 0);
            due("judge 3 " + last, x.judge(1, 3010 + 100 * last), CaveLegs.NONE);
            due("judge 3 " + legs, x.judge(1, 3010 + 100 * legs), 0);
            due("judge 6 " + last, x.judge(1, 6000 + 100 * last), CaveLegs.NONE);
            due("judge 6 " + legs, x.judge(1, 6000 + 100 * legs), 0);
            due("read " + last, x.read(last, 0, 11), 10);
            due("fall " + last, x.fall(last), 1);
            due("take " + last, x.take(last), last);
        }
    }

    private static void legWhatIsFrom0To9() {
        CaveLegs x = Check.caveOf("C6l5499b49");
        int[] row = {99, 11, 4, 9, 5, 4, 0, 76, 142, 186};
        for (int what = 0; what <= 9; what++) {
            due("6 what " + what, x.leg(0, what), row[what]);
        }
        Refused.beyond("6 leg, what", 0, 9, CaveLegs.OUTSIDE, (y, w, v) -> y.leg(w.legs - 1, v), World.READ, World.RICH, World.FULL);
        Refused.noSuchLeg("6 leg", (y, w, v) -> y.leg(v, 0));
        Refused.noSuchLeg("6 leg, the vector", (y, w, v) -> y.leg(v, 9));
    }

    private static void legsAreUnknownBeforeOutside() {
        Refused.noSuchLeg("6 leg and what -1", (y, w, v) -> y.leg(v, -1));
        Refused.noSuchLeg("6 leg and what 10", (y, w, v) -> y.leg(v, 10));
    }

    private static void vector(int tape, int bearing, int slope, int east, int north, int up) {
        CaveLegs x = Check.caveOf("C2");
        x.measure(0, 1, tape, bearing, slope, 1);
        String name = "vector of " + tape + ", " + bearing + ", " + slope;
        due(name + ", east", x.leg(0, 7), 100 + east);
        due(name + ", north", x.leg(0, 8), 100 + north);
        due(name + ", up", x.leg(0, 9), 100 + up);
    }

    /** 99: 86.13 and 49.5; 10: 8.7 and 5; 1: 0.87 and 0.5. The product is cut, then cut again. */
    private static void horizontalLengths() {
        vector(99, 3, 0, 49, 0, -86);
        vector(99, 3, 1, 86, 0, -49);
        vector(99, 3, 2, 99, 0, 0);
        vector(99, 3, 3, 86, 0, 49);
        vector(99, 3, 4, 49, 0, 86);
        vector(1, 3, 0, 0, 0, 0);
        vector(1, 3, 1, 0, 0, 0);
        vector(1, 3, 2, 1, 0, 0);
        vector(1, 3, 3, 0, 0, 0);
        vector(1, 3, 4, 0, 0, 0);
        vector(10, 2, 3, 6, 4, 5);
        vector(10, 2, 1, 6, 4, -5);
        vector(11, 1, 4, 2, 4, 9);
        vector(11, 1, 0, 2, 4, -9);
    }

    private static void theSineTableWrapsAround() {
        int[] east = {0, 49, 86, 99, 86, 49, 0, -49, -86, -99, -86, -49};
        for (int bearing = 0; bearing <= 11; bearing++) {
            vector(99, bearing, 2, east[bearing], east[bearing < 9 ? bearing + 3 : bearing - 9], 0);
        }
    }

    private static void upAndDown() {
        vector(2, 0, 3, 0, 1, 1);
        vector(2, 0, 1, 0, 1, -1);
        vector(2, 0, 4, 0, 1, 1);
        vector(2, 0, 0, 0, 1, -1);
        vector(2, 0, 2, 0, 2, 0);
    }

    /** -0.5, -0.87 and -1.5 become 0, 0 and -1, not -1, -1 and -2. */
    private static void quotientsAreTruncatedTowards0() {
        vector(1, 7, 2, 0, 0, 0);
        vector(1, 10, 2, 0, 0, 0);
        vector(3, 8, 2, -2, -1, 0);
        vector(3, 0, 1, 0, 2, -1);
        vector(3, 0, 0, 0, 1, -2);
        vector(1, 6, 1, 0, 0, 0);
        vector(1, 6, 0, 0, 0, 0);
    }

    private static void vectorsAreShiftedBy100() {
        CaveLegs x = Check.caveOf("C2l0199921l0199321l0199621l0199021l0199001l0199041");
        due("6 lowest east", x.leg(0, 7), 1);
        due("6 highest east", x.leg(1, 7), 199);
        due("6 lowest north", x.leg(2, 8), 1);
        due("6 highest north", x.leg(3, 8), 199);
        due("6 lowest up", x.leg(4, 9), 14);
        due("6 highest up", x.leg(5, 9), 186);
    }

    // ---- measure, take, read, fall

    private static void measureTakesTheLastOfEachRange() {
        CaveLegs x = Check.caveOf("C6");
        due("7 the least of all", x.measure(0, 1, 1, 0, 0, 1), 1);
        due("7 the most of all", x.measure(5, 4, 99, 11, 4, 9), 2);
        for (int what = 0; what < 4; what++) {
            due("7 least " + what, x.leg(0, what), LEAST[what]);
            due("7 most " + what, x.leg(1, what), MOST[what]);
        }
        due("7 from 5", x.leg(1, 4), 5);
        due("7 to 4", x.leg(1, 5), 4);
    }

    private static void measureRefusesUnknownStations() {
        Refused.noSuchStation("7 measure from", (x, w, v) -> x.measure(v, 0, 10, 3, 2, 1));
        Refused.noSuchStation("7 measure to", (x, w, v) -> x.measure(0, v, 10, 3, 2, 1));
        Refused.noSuchStation("7 measure from and to", (x, w, v) -> x.measure(v, v, 10, 3, 2, 1));
    }

    private static void measureRefusesTheSameStation() {
        for (int s = 0; s < 6; s++) {
            int station = s;
            for (World w : World.values()) {
                if (s < w.stations) {
                    Refused.check("7 measure from and to " + s, CaveLegs.STATE, (x, u) -> x.measure(station, station, 10, 3, 2, 1), w);
                }
            }
        }
    }

    private static void measureRefusesOtherValues() {
        World[] worlds = {World.READ, World.RICH};
        Refused.beyond("7 tape", 1, 99, CaveLegs.OUTSIDE, (x, w, v) -> x.measure(0, 1, v, 3, 2, 1), worlds);
        Refused.beyond("7 bearing", 0, 11, CaveLegs.OUTSIDE, (x, w, v) -> x.measure(0, 1, 10, v, 2, 1), worlds);
        Refused.beyond("7 slope", 0, 4, CaveLegs.OUTSIDE, (x, w, v) -> x.measure(0, 1, 10, 3, v, 1), worlds);
        Refused.beyond("7 width", 1, 9, CaveLegs.OUTSIDE, (x, w, v) -> x.measure(0, 1, 10, 3, 2, v), worlds);
    }

    private static void measureRefusesANinthLeg() {
        CaveLegs x = Check.caveOf("C2");
        for (int legs = 1; legs <= 8; legs++) {
            due("7 leg " + legs, x.measure(0, 1, legs, 0, 2, 1), legs);
        }
        due("7 leg 9", x.measure(0, 1, 9, 0, 2, 1), CaveLegs.FULL);
        due("7 the eighth leg", x.leg(7, 0), 8);
        x.take(7);
        due("7 an eighth again", x.measure(1, 0, 9, 0, 2, 1), 8);
        due("7 a ninth again", x.measure(1, 0, 9, 0, 2, 1), CaveLegs.FULL);
        Refused.check("7 measure a ninth leg", CaveLegs.FULL, (y, w) -> y.measure(0, 1, 10, 3, 2, 1), World.FULL);
        Refused.check("7 measure another ninth leg", CaveLegs.FULL, (y, w) -> y.measure(5, 4, 99, 11, 4, 9), World.FULL);
    }

    private static void measureChecksInItsOrder() {
        Refused.noSuchStation("7 unknown before state and outside", (x, w, v) -> x.measure(v, v, 0, -1, 5, 10));
        Refused.noSuchStation("7 from is unknown before outside", (x, w, v) -> x.measure(v, 0, 100, 3, 2, 1));
        Refused.noSuchStation("7 to is unknown before outside", (x, w, v) -> x.measure(0, v, 10, 3, 2, 0));
        Refused.everywhere("7 state before outside: tape", CaveLegs.STATE, (x, w) -> x.measure(0, 0, 0, 3, 2, 1));
        Refused.everywhere("7 state before outside: bearing", CaveLegs.STATE, (x, w) -> x.measure(0, 0, 10, 12, 2, 1));
        Refused.everywhere("7 state before outside: slope", CaveLegs.STATE, (x, w) -> x.measure(0, 0, 10, 3, 5, 1));
        Refused.everywhere("7 state before outside: width", CaveLegs.STATE, (x, w) -> x.measure(0, 0, 10, 3, 2, 10));
        Refused.check("7 unknown before full", CaveLegs.UNKNOWN, (x, w) -> x.measure(6, 0, 10, 3, 2, 1), World.FULL);
        Refused.check("7 state before full", CaveLegs.STATE, (x, w) -> x.measure(5, 5, 10, 3, 2, 1), World.FULL);
        Refused.check("7 tape before full", CaveLegs.OUTSIDE, (x, w) -> x.measure(0, 1, 100, 3, 2, 1), World.FULL);
        Refused.check("7 bearing before full", CaveLegs.OUTSIDE, (x, w) -> x.measure(0, 1, 10, -1, 2, 1), World.FULL);
        Refused.check("7 slope before full", CaveLegs.OUTSIDE, (x, w) -> x.measure(0, 1, 10, 3, 5, 1), World.FULL);
        Refused.check("7 width before full", CaveLegs.OUTSIDE, (x, w) -> x.measure(0, 1, 10, 3, 2, 0), World.FULL);
    }

    private static void measureAddsAnOpenLegAfterAllOthers() {
        CaveLegs x = Check.caveOf("C2" + LEG.repeat(8));
        x.fall(7);
        x.take(7);
        x.measure(1, 0, 77, 1, 1, 2);
        due("7 the leg is open, though the one before in its place was not", x.leg(7, 6), 0);
        due("7 it is the last one", x.leg(7, 0), 77);
        due("7 the one before it stays", x.leg(6, 0), 10);
        due("7 no leg is collapsed", x.count(3), 0);
    }

    private static void takeRefusesUnknownLegs() {
        Refused.noSuchLeg("8 take", (x, w, v) -> x.take(v));
    }

    private static void takeMovesLaterLegsDown() {
        for (int gone = 0; gone < 8; gone++) {
            CaveLegs x = Check.caveOf("C2");
            for (int leg = 0; leg < 8; leg++) {
                x.measure(leg % 2, 1 - leg % 2, 10 + leg, leg, leg % 5, 1 + leg);
            }
            x.fall(7);
            due("8 take " + gone, x.take(gone), 7);
            for (int leg = 0; leg < 7; leg++) {
                int was = leg < gone ? leg : leg + 1;
                int[] row = {10 + was, was, was % 5, 1 + was, was % 2, 1 - was % 2, was == 7 ? 1 : 0};
                for (int what = 0; what < row.length; what++) {
                    due("8 leg " + leg + ", " + what + " without " + gone, x.leg(leg, what), row[what]);
                }
            }
            due("8 no leg 7", x.leg(7, 0), CaveLegs.UNKNOWN);
        }
        CaveLegs one = Check.caveOf("C2" + LEG);
        due("8 the only one", one.take(0), 0);
        due("8 none is left", one.take(0), CaveLegs.UNKNOWN);
    }

    private static void readTakesTheLastOfEachRange() {
        CaveLegs x = Check.caveOf("C2" + LEG.repeat(8));
        int[] was = {10, 3, 2, 1};
        for (int what = 0; what < 4; what++) {
            due("9 the least of " + what, x.read(7, what, LEAST[what]), was[what]);
            due("9 is read", x.leg(7, what), LEAST[what]);
            due("9 the most of " + what, x.read(7, what, MOST[what]), LEAST[what]);
            due("9 is read too", x.leg(7, what), MOST[what]);
            due("9 of no other leg", x.leg(6, what), was[what]);
        }
    }

    private static void readRefuses() {
        World[] worlds = {World.READ, World.RICH, World.FULL};
        for (int k = 0; k < 4; k++) {
            int what = k;
            Refused.beyond("9 read, v of " + k, LEAST[k], MOST[k], CaveLegs.OUTSIDE, (x, w, v) -> x.read(w.legs - 1, what, v), worlds);
            Refused.noSuchLeg("9 read " + k, (x, w, v) -> x.read(v, what, 1));
            Refused.noSuchLeg("9 read, unknown before v of " + k, (x, w, v) -> x.read(v, what, 100));
        }
        Refused.beyond("9 read, what", 0, 3, CaveLegs.OUTSIDE, (x, w, v) -> x.read(0, v, 1), worlds);
        Refused.noSuchLeg("9 read, unknown before what 4", (x, w, v) -> x.read(v, 4, 1));
        Refused.noSuchLeg("9 read, unknown before what -1", (x, w, v) -> x.read(v, -1, 1));
    }

    private static void readOfTheSameValueIsAChange() {
        for (int what = 0; what < 4; what++) {
            CaveLegs x = Check.caveOf("C2" + LEG);
            int v = x.leg(0, what);
            due("9 the same value", x.read(0, what, v), v);
            due("9 is a change", x.count(4), 1);
            due("9 can be undone", x.undo(), 0);
            due("9 and stays", x.leg(0, what), v);
        }
    }

    private static void fallTurnsTheLastLeg() {
        CaveLegs x = Check.caveOf("C2" + LEG.repeat(8));
        int set = 0;
        for (int leg = 7; leg >= 0; leg--) {
            set |= 1 << leg;
            due("10 collapse " + leg, x.fall(leg), 1);
            due("10 collapsed legs", x.count(3), set);
        }
        for (int leg = 7; leg >= 0; leg--) {
            set &= ~(1 << leg);
            due("10 open " + leg, x.fall(leg), 0);
            due("10 collapsed legs then", x.count(3), set);
        }
        due("10 sixteen changes, the latest 14 count", x.count(4), 14);
    }

    private static void fallRefusesUnknownLegs() {
        Refused.noSuchLeg("10 fall", (x, w, v) -> x.fall(v));
    }

    // ---- changes

    private static void theLatest14CanBeUndone() {
        for (int changes = 0; changes <= 45; changes++) {
            CaveLegs x = Check.caveOf("C2" + LEG);
            for (int k = 1; k <= changes; k++) {
                x.read(0, 0, 10 + k);
                due("change " + k, x.count(4), Math.min(k, 14));
            }
            int can = Math.min(changes, 14);
            for (int k = 1; k <= can; k++) {
                due("11 undo " + k + " of " + changes, x.undo(), can - k);
                due("11 the length then", x.leg(0, 0), 10 + changes - k);
            }
            due("11 no more of " + changes, x.undo(), CaveLegs.STATE);
            due("11 the length stays", x.leg(0, 0), 10 + changes - can);
            due("11 none is left", x.count(4), 0);
        }
    }

    private static void eachKindOfChangeIsUndone() {
        for (int leg = 0; leg < 8; leg++) {
            CaveLegs x = Check.caveOf("C3l0111321l1212332l2013303l0214914l1215b25l2116036l0117147l1218208");
            x.fall(3);
            x.take(leg);
            due("11 undo take " + leg, x.undo(), 1);
            for (int k = 0; k < 8; k++) {
                due("11 length " + k, x.leg(k, 0), 11 + k);
                due("11 width " + k, x.leg(k, 3), 1 + k);
                due("11 from " + k, x.leg(k, 4), k % 3);
            }
            due("11 collapsed legs", x.count(3), 8);
            x.fall(leg);
            due("11 undo fall " + leg, x.undo(), 1);
            due("11 collapsed legs still", x.count(3), 8);
            x.take(7);
            x.measure(1, 0, 99, 0, 0, 1);
            due("11 undo measure", x.undo(), 2);
            due("11 seven legs", x.count(2), 7);
            due("11 no leg 7", x.leg(7, 0), CaveLegs.UNKNOWN);
            for (int what = 0; what < 4; what++) {
                int was = x.leg(2, what);
                x.read(2, what, MOST[what]);
                due("11 undo read", x.undo(), 2);
                due("11 the value before", x.leg(2, what), was);
            }
        }
    }

    private static void undoneChangesMakeRoom() {
        CaveLegs x = Check.caveOf("C2" + LEG);
        for (int k = 1; k <= 14; k++) {
            x.read(0, 0, 10 + k);
        }
        for (int k = 1; k <= 5; k++) {
            x.undo();
        }
        due("11 nine are left", x.count(4), 9);
        for (int k = 1; k <= 6; k++) {
            x.read(0, 0, 50 + k);
        }
        due("11 fifteen, of which 14 count", x.count(4), 14);
        int[] before = {55, 54, 53, 52, 51, 19, 18, 17, 16, 15, 14, 13, 12, 11};
        for (int k = 0; k < 14; k++) {
            due("11 undo", x.undo(), 13 - k);
            due("11 the length before", x.leg(0, 0), before[k]);
        }
        due("11 the first is lost", x.undo(), CaveLegs.STATE);
    }

    private static void undoIsRefusedIfThereIsNoChange() {
        Refused.check("11 undo", CaveLegs.STATE, (x, w) -> x.undo(), World.NEW, World.READ);
    }

    private static void otherCallsAreNoChanges() {
        CaveLegs x = Check.caveOf("C2" + LEG + LEG);
        x.write('l');
        x.wipe();
        x.see(0, 1, 1, 1);
        x.unsee();
        x.seed(3);
        x.drawn(5);
        x.keep(0);
        x.judge(4, 1000_2100_3055_5000L);
        x.share(0, true);
        x.which();
        x.must(1);
        x.ask(2);
        due("no change", x.count(4), 0);
        due("nothing to undo", x.undo(), CaveLegs.STATE);
        x.fall(1);
        x.undo();
        due("undo is no change", x.undo(), CaveLegs.STATE);
    }

    private static void refusedCallsAreNoChanges() {
        CaveLegs x = Check.caveOf("C2" + LEG.repeat(8));
        x.fall(0);
        x.measure(0, 1, 1, 1, 1, 1);
        x.measure(0, 0, 1, 1, 1, 1);
        x.take(8);
        x.read(0, 4, 1);
        x.read(0, 0, 100);
        x.fall(8);
        due("one change", x.count(4), 1);
        due("it is the fall", x.undo(), 0);
        due("no leg is collapsed", x.count(3), 0);
    }

    // ---- promises 29 and 30

    private static void slotsAre0And1() {
        CaveLegs x = Check.caveOf("C2" + LEG.repeat(8));
        due("29 keep 0", x.keep(0), 8);
        x.take(7);
        due("29 keep 1", x.keep(1), 7);
        due("30 again 0", x.again(0), 8);
        due("30 again 1", x.again(1), 7);
        Refused.beyondEverywhere("29 keep", 0, 1, CaveLegs.UNKNOWN, (y, w, v) -> y.keep(v));
        Refused.beyondEverywhere("30 again", 0, 1, CaveLegs.UNKNOWN, (y, w, v) -> y.again(v));
    }

    private static void anEmptySlotIsRefused() {
        Refused.check("30 again 0", CaveLegs.STATE, (x, w) -> x.again(0), World.NEW, World.READ);
        Refused.check("30 again 1", CaveLegs.STATE, (x, w) -> x.again(1), World.NEW, World.READ);
        for (int slot = 0; slot <= 1; slot++) {
            CaveLegs x = Check.caveOf("C2" + LEG);
            x.keep(slot);
            x.fall(0);
            due("30 the other slot is empty", x.again(1 - slot), CaveLegs.STATE);
            due("30 the leg stays collapsed", x.count(3), 1);
            due("30 the change stays", x.count(4), 1);
            due("30 this one is not", x.again(slot), 1);
        }
    }

    private static void keepingNoLegsFillsASlot() {
        CaveLegs x = new CaveLegs();
        due("29 keep no legs", x.keep(1), 0);
        due("30 no legs again", x.again(1), 0);
        due("30 slot 0 is empty still", x.again(0), CaveLegs.STATE);
        CaveLegs y = Check.caveOf("C2");
        y.keep(0);
        y.measure(0, 1, 1, 1, 1, 1);
        due("30 none again", y.again(0), 0);
        due("30 no leg then", y.count(2), 0);
    }

    private static void keepReplacesWhatWasSaved() {
        CaveLegs x = Check.caveOf("C2" + LEG.repeat(8));
        x.fall(7);
        x.keep(0);
        x.keep(1);
        for (int k = 0; k < 8; k++) {
            x.take(0);
        }
        due("29 keep none instead of eight", x.keep(0), 0);
        due("30 none", x.again(0), 0);
        due("30 eight in the other", x.again(1), 8);
        due("30 the last collapsed", x.count(3), 128);
        due("29 keep eight instead of none", x.keep(0), 8);
        x.take(0);
        due("30 eight", x.again(0), 8);
        due("30 the last collapsed too", x.count(3), 128);
    }

    private static void againLeavesNothingToUndo() {
        CaveLegs x = World.FULL.make();
        due("30 again", x.again(0), 8);
        due("30 no change", x.count(4), 0);
        due("30 no undo", x.undo(), CaveLegs.STATE);
        x.read(0, 0, 1);
        due("30 a new change", x.count(4), 1);
        due("30 its undo", x.undo(), 0);
        due("30 no more", x.undo(), CaveLegs.STATE);
    }

    private static void theSlotKeepsWhatItHas() {
        CaveLegs x = Check.caveOf("C2l0111321l0122321");
        x.fall(1);
        x.keep(0);
        for (int k = 0; k < 3; k++) {
            x.take(0);
            x.read(0, 0, 99);
            x.fall(0);
            due("30 both legs", x.again(0), 2);
            due("30 length of 0", x.leg(0, 0), 11);
            due("30 length of 1", x.leg(1, 0), 22);
            due("30 leg 1 collapsed", x.count(3), 2);
        }
        x.fall(1);
        x.undo();
        due("30 undo after again", x.count(3), 2);
    }

    // ---- an object is used for at most 512 calls

    private static void the512thCallIsAnswered() {
        CaveLegs x = new CaveLegs();
        Check.write(x, "C2" + LEG);
        x.cave();
        for (int call = 12; call < 512; call++) {
            due("call " + call, x.fall(0), 1 - call % 2);
        }
        due("call 512", x.count(4), 14);
    }
}
