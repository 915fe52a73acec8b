/**
 * The boundary cases of COORDINATES, of fractions, and of promises 12 to 17.
 * Each method is a sentence of the document, at the last value that is allowed
 * and the first one that is not.
 */
public final class EdgesOfSurveyTest {
    private static final World[] CAVES = {World.READ, World.RICH, World.FULL};
    private static final World[] APART = {World.RICH, World.FULL};

    /** Seven legs of 1 east and one of 2 east, all from 0 to 1: the mean is 9/8. */
    private static final String EIGHT = "C2" + "l0101321".repeat(7) + "l0102321";

    public static void main(String[] args) {
        theEntranceIsAlwaysConnected();
        legsConnectInEitherDirection();
        stationsCanBeOutOfReach();
        aChainOfFiveConnectsAll();
        collapsedLegsCountAsWell();
        plottingTakesTheLowestLegOfThoseAtTheEdge();
        plottingGoesAgainstLegs();
        coordinatesAreShiftedBy1000();
        misclosuresAreShiftedBy1000();
        laidRefuses();
        missRefuses();
        evenedRefuses();
        restRefuses();
        fractionsOf0Are0Over1();
        fractionsAreInLowestTerms();
        denominatorsArePositive();
        squaresOfAllThreeComponents();
        legsThatAreNotConnectedAddNoSquares();
        askWhatIsFrom0To3();
        connectedStationsFromOneToSix();
        loopsFromNoneToSeven();
        noLegCanBeLeftOut();
        aLegThatIsNotConnectedCanBeLeftOut();
        aLegThatConnectsCannotBeLeftOut();
        theLowestOfSeveralBlunders();
        theLastLegIsTheBlunder();
        squareSumsOfDifferentDenominators();
        legsWithoutWhichTheSquareSumIs0();
        Check.end();
    }

    private static void due(String what, long got, long want) {
        Check.due(what, got, want);
    }

    private static void evened(CaveLegs x, int station, int what, long top, long bottom) {
        due("14 numerator of " + station + ", " + what, x.evened(station, what, true), top);
        due("14 denominator of " + station + ", " + what, x.evened(station, what, false), bottom);
    }

    private static void rest(CaveLegs x, int leg, int what, long top, long bottom) {
        due("15 numerator of " + leg + ", " + what, x.rest(leg, what, true), top);
        due("15 denominator of " + leg + ", " + what, x.rest(leg, what, false), bottom);
    }

    private static void squares(String text, long top, long bottom) {
        CaveLegs x = Check.caveOf(text);
        due("16 numerator of " + text, x.squares(true), top);
        due("16 denominator of " + text, x.squares(false), bottom);
    }

    private static void ask(String text, int stations, int loops, int blunder, int menders) {
        CaveLegs x = Check.caveOf(text);
        due("17 connected stations of " + text, x.ask(0), stations);
        due("17 loops of " + text, x.ask(1), loops);
        due("17 blunder of " + text, x.ask(2), blunder);
        due("17 legs that mend " + text, x.ask(3), menders);
    }

    // ---- what is connected

    private static void theEntranceIsAlwaysConnected() {
        for (int n = 1; n <= 6; n++) {
            CaveLegs x = Check.caveOf("C" + n);
            due("17 the entrance alone", x.ask(0), 1);
            for (int what = 0; what < 3; what++) {
                due("12 the entrance", x.laid(0, what), 1000);
                evened(x, 0, what, 0, 1);
            }
            for (int station = 1; station < n; station++) {
                due("12 no leg leads to " + station, x.laid(station, 0), CaveLegs.STATE);
                due("14 no leg leads to " + station, x.evened(station, 0, true), CaveLegs.STATE);
            }
        }
        CaveLegs off = Check.caveOf("C3l1210321l2110321");
        due("17 no leg at the entrance", off.ask(0), 1);
        due("12 no leg at the entrance", off.laid(0, 0), 1000);
    }

    private static void legsConnectInEitherDirection() {
        CaveLegs x = Check.caveOf("C4l1010321l1210321l3210321");
        due("17 all four", x.ask(0), 15);
        due("12 to the entrance", x.laid(1, 0), 990);
        due("12 and on", x.laid(2, 0), 1000);
        due("12 and back", x.laid(3, 0), 990);
        due("13 connected", x.miss(2, 0), 1000);
    }

    private static void stationsCanBeOutOfReach() {
        CaveLegs x = Check.caveOf("C5l0110321l2310321l3410321");
        due("17 connected stations", x.ask(0), 3);
        for (int what = 0; what < 3; what++) {
            due("12 station 1", x.laid(1, what), what == 0 ? 1010 : 1000);
            for (int station = 2; station < 5; station++) {
                due("12 station " + station, x.laid(station, what), CaveLegs.STATE);
                due("14 station " + station, x.evened(station, what, true), CaveLegs.STATE);
                due("14 station " + station + ", below", x.evened(station, what, false), CaveLegs.STATE);
            }
            due("13 leg 0", x.miss(0, what), 1000);
            for (int leg = 1; leg < 3; leg++) {
                due("13 leg " + leg, x.miss(leg, what), CaveLegs.STATE);
                due("15 leg " + leg, x.rest(leg, what, true), CaveLegs.STATE);
                due("15 leg " + leg + ", below", x.rest(leg, what, false), CaveLegs.STATE);
            }
        }
        x.measure(1, 4, 10, 3, 2, 1);
        due("17 all five", x.ask(0), 31);
        due("12 station 2 then", x.laid(2, 0), 1000);
        due("13 leg 1 then", x.miss(1, 0), 1000);
        x.undo();
        due("12 station 2 again", x.laid(2, 0), CaveLegs.STATE);
    }

    /** The legs stand in the order that needs most rounds, and in the one that needs fewest. */
    private static void aChainOfFiveConnectsAll() {
        CaveLegs far = Check.caveOf("C6l4501321l3402321l2304321l1208321l0116321");
        CaveLegs near = Check.caveOf("C6l0116321l1208321l2304321l3402321l4501321");
        int[] east = {0, 16, 24, 28, 30, 31};
        for (int station = 0; station < 6; station++) {
            due("12 far chain", far.laid(station, 0), 1000 + east[station]);
            due("12 near chain", near.laid(station, 0), 1000 + east[station]);
            evened(far, station, 0, east[station], 1);
        }
        far.take(2);
        due("17 without the middle", far.ask(0), 7);
    }

    private static void collapsedLegsCountAsWell() {
        CaveLegs open = World.FULL.make();
        CaveLegs fallen = World.FULL.make();
        for (int leg = 0; leg < 7; leg++) {
            fallen.fall(leg);
        }
        due("all are collapsed", fallen.count(3), 255);
        for (int what = 0; what <= 3; what++) {
            due("17 ask " + what, fallen.ask(what), open.ask(what));
        }
        due("16 squares", fallen.squares(true), open.squares(true));
        for (int what = 0; what < 3; what++) {
            for (int k = 0; k < 8; k++) {
                due("12 laid", fallen.laid(k, what), open.laid(k, what));
                due("13 miss", fallen.miss(k, what), open.miss(k, what));
                due("14 evened", fallen.evened(k, what, true), open.evened(k, what, true));
                due("15 rest", fallen.rest(k, what, true), open.rest(k, what, true));
            }
        }
        CaveLegs one = Check.caveOf("C2l0110321");
        one.fall(0);
        due("12 over a collapsed leg", one.laid(1, 0), 1010);
        due("13 of a collapsed leg", one.miss(0, 0), 1000);
        due("17 with a collapsed leg", one.ask(0), 3);
    }

    // ---- plotted coordinates and misclosures

    private static void plottingTakesTheLowestLegOfThoseAtTheEdge() {
        // leg 1 first (station 2), then leg 0 rather than leg 2 (station 1)
        CaveLegs x = Check.caveOf("C3l1210021l0205321l0120321");
        due("12 station 2 east", x.laid(2, 0), 1005);
        due("12 station 2 north", x.laid(2, 1), 1000);
        due("12 station 1 east", x.laid(1, 0), 1005);
        due("12 station 1 north", x.laid(1, 1), 990);
        due("13 leg 0 is used", x.miss(0, 1), 1000);
        due("13 leg 1 is used", x.miss(1, 0), 1000);
        due("13 leg 2 east", x.miss(2, 0), 1015);
        due("13 leg 2 north", x.miss(2, 1), 1010);
        // of two legs between the same stations the lower one
        CaveLegs twin = Check.caveOf("C2l0110321l0120321");
        due("12 by leg 0", twin.laid(1, 0), 1010);
        due("13 leg 1", twin.miss(1, 0), 1010);
        twin.take(0);
        due("12 by the other", twin.laid(1, 0), 1020);
    }

    private static void plottingGoesAgainstLegs() {
        // the vector of both legs is 6 east, 4 north, 5 up
        CaveLegs back = Check.caveOf("C2l1010231l0110231");
        due("12 east", back.laid(1, 0), 994);
        due("12 north", back.laid(1, 1), 996);
        due("12 up", back.laid(1, 2), 995);
        due("13 leg 1 east", back.miss(1, 0), 1012);
        due("13 leg 1 north", back.miss(1, 1), 1008);
        due("13 leg 1 up", back.miss(1, 2), 1010);
    }

    private static String chain(String measured) {
        return "C6l01" + measured + "l12" + measured + "l23" + measured + "l34" + measured + "l45" + measured;
    }

    private static void coordinatesAreShiftedBy1000() {
        due("12 farthest east", Check.caveOf(chain("99321")).laid(5, 0), 1495);
        due("12 farthest west", Check.caveOf(chain("99921")).laid(5, 0), 505);
        due("12 farthest north", Check.caveOf(chain("99021")).laid(5, 1), 1495);
        due("12 farthest south", Check.caveOf(chain("99621")).laid(5, 1), 505);
        due("12 highest", Check.caveOf(chain("99041")).laid(5, 2), 1430);
        due("12 lowest", Check.caveOf(chain("99001")).laid(5, 2), 570);
    }

    private static void misclosuresAreShiftedBy1000() {
        due("13 least east", Check.caveOf(chain("99321") + "l0599921").miss(5, 0), 406);
        due("13 most east", Check.caveOf(chain("99321") + "l5099321").miss(5, 0), 1594);
        due("13 least north", Check.caveOf(chain("99021") + "l0599621").miss(5, 1), 406);
        due("13 most north", Check.caveOf(chain("99021") + "l5099021").miss(5, 1), 1594);
        due("13 least up", Check.caveOf(chain("99041") + "l0599001").miss(5, 2), 484);
        due("13 most up", Check.caveOf(chain("99041") + "l5099041").miss(5, 2), 1516);
    }

    // ---- refused calls

    private static void laidRefuses() {
        Refused.noSuchStation("12 laid", (x, w, v) -> x.laid(v, 2));
        Refused.noSuchStation("12 laid, unknown before outside", (x, w, v) -> x.laid(v, 3));
        Refused.beyondEverywhere("12 laid, what", 0, 2, CaveLegs.OUTSIDE, (x, w, v) -> x.laid(0, v));
        Refused.beyond("12 laid, outside before state", 0, 2, CaveLegs.OUTSIDE, (x, w, v) -> x.laid(w.farStation, v), APART);
        Refused.check("12 laid, not connected", CaveLegs.STATE, (x, w) -> x.laid(w.farStation, 0), APART);
        Refused.check("12 laid, not connected, up", CaveLegs.STATE, (x, w) -> x.laid(w.farStation, 2), APART);
    }

    private static void missRefuses() {
        Refused.noSuchLeg("13 miss", (x, w, v) -> x.miss(v, 2));
        Refused.noSuchLeg("13 miss, unknown before outside", (x, w, v) -> x.miss(v, -1));
        Refused.beyond("13 miss, what", 0, 2, CaveLegs.OUTSIDE, (x, w, v) -> x.miss(0, v), CAVES);
        Refused.beyond("13 miss, outside before state", 0, 2, CaveLegs.OUTSIDE, (x, w, v) -> x.miss(w.farLeg, v), APART);
        Refused.check("13 miss, not connected", CaveLegs.STATE, (x, w) -> x.miss(w.farLeg, 0), APART);
        Refused.check("13 miss, not connected, up", CaveLegs.STATE, (x, w) -> x.miss(w.farLeg, 2), APART);
    }

    private static void evenedRefuses() {
        for (int side = 0; side < 2; side++) {
            boolean upper = side == 0;
            Refused.noSuchStation("14 evened", (x, w, v) -> x.evened(v, 2, upper));
            Refused.noSuchStation("14 evened, unknown before outside", (x, w, v) -> x.evened(v, 3, upper));
            Refused.beyondEverywhere("14 evened, what", 0, 2, CaveLegs.OUTSIDE, (x, w, v) -> x.evened(0, v, upper));
            Refused.beyond("14 evened, outside before state", 0, 2, CaveLegs.OUTSIDE,
                (x, w, v) -> x.evened(w.farStation, v, upper), APART);
            Refused.check("14 evened, not connected", CaveLegs.STATE, (x, w) -> x.evened(w.farStation, 0, upper), APART);
            Refused.check("14 evened, not connected, up", CaveLegs.STATE, (x, w) -> x.evened(w.farStation, 2, upper), APART);
        }
    }

    private static void restRefuses() {
        for (int side = 0; side < 2; side++) {
            boolean upper = side == 0;
            Refused.noSuchLeg("15 rest", (x, w, v) -> x.rest(v, 2, upper));
            Refused.noSuchLeg("15 rest, unknown before outside", (x, w, v) -> x.rest(v, 3, upper));
            Refused.beyond("15 rest, what", 0, 2, CaveLegs.OUTSIDE, (x, w, v) -> x.rest(0, v, upper), CAVES);
            Refused.beyond("15 rest, outside before state", 0, 2, CaveLegs.OUTSIDE, (x, w, v) -> x.rest(w.farLeg, v, upper), APART);
            Refused.check("15 rest, not connected", CaveLegs.STATE, (x, w) -> x.rest(w.farLeg, 0, upper), APART);
            Refused.check("15 rest, not connected, up", CaveLegs.STATE, (x, w) -> x.rest(w.farLeg, 2, upper), APART);
        }
    }

    // ---- fractions

    private static void fractionsOf0Are0Over1() {
        CaveLegs x = Check.caveOf(EIGHT);
        for (int what = 0; what < 3; what++) {
            evened(x, 0, what, 0, 1);
        }
        evened(x, 1, 1, 0, 1);
        evened(x, 1, 2, 0, 1);
        rest(x, 0, 1, 0, 1);
        rest(x, 7, 2, 0, 1);
        CaveLegs tree = Check.caveOf("C3l0110321l2110021");
        rest(tree, 0, 0, 0, 1);
        rest(tree, 1, 1, 0, 1);
        squares("C1", 0, 1);
        squares("C6", 0, 1);
        squares("C3l0110321l2110021", 0, 1);
        squares("C2" + "l0199041".repeat(8), 0, 1);
    }

    private static void fractionsAreInLowestTerms() {
        CaveLegs x = Check.caveOf(EIGHT);
        evened(x, 1, 0, 9, 8);
        rest(x, 0, 0, -1, 8);
        rest(x, 7, 0, 7, 8);
        // seven times 1/64 and once 49/64
        squares(EIGHT, 7, 8);
        x.read(7, 0, 3);
        evened(x, 1, 0, 5, 4);
        rest(x, 6, 0, -1, 4);
        rest(x, 7, 0, 7, 4);
        x.read(7, 0, 5);
        evened(x, 1, 0, 3, 2);
        rest(x, 7, 0, 7, 2);
        x.read(7, 0, 9);
        evened(x, 1, 0, 2, 1);
        rest(x, 0, 0, -1, 1);
        due("16 seven and 49", x.squares(true), 56);
        due("16 over 1", x.squares(false), 1);
        x.read(7, 0, 1);
        evened(x, 1, 0, 1, 1);
        rest(x, 7, 0, 0, 1);
        due("16 nothing", x.squares(true), 0);
        due("16 over 1 again", x.squares(false), 1);
    }

    private static void denominatorsArePositive() {
        CaveLegs west = Check.caveOf("C2" + "l0101921".repeat(7) + "l0102921");
        evened(west, 1, 0, -9, 8);
        rest(west, 0, 0, 1, 8);
        rest(west, 7, 0, -7, 8);
        CaveLegs back = Check.caveOf("C2" + "l1001321".repeat(7) + "l1002321");
        evened(back, 1, 0, -9, 8);
        rest(back, 0, 0, -1, 8);
        rest(back, 7, 0, 7, 8);
    }

    private static void squaresOfAllThreeComponents() {
        squares("C2l0110321l0111321", 1, 2);
        squares("C2l0110021l0111021", 1, 2);
        // 1 up and 1 down
        squares("C2l0102311l0102331", 2, 1);
        // 6 east, 4 north, 5 up, and the same backwards: (144 + 64 + 100) / 2
        squares("C2l0110231l0110811", 154, 1);
        // 99 east and 99 west, four times each
        squares("C2" + "l0199321".repeat(4) + "l0199921".repeat(4), 8 * 99 * 99, 1);
    }

    private static void legsThatAreNotConnectedAddNoSquares() {
        squares("C3l1210321l1299921", 0, 1);
        squares("C4l0110321l2310321l2399921", 0, 1);
        squares("C4l2310321l2399921l0110321l0111321", 1, 2);
    }

    // ---- ask

    private static void askWhatIsFrom0To3() {
        ask(EIGHT, 3, 7, 7, 128);
        Refused.beyondEverywhere("17 ask", 0, 3, CaveLegs.OUTSIDE, (x, w, v) -> x.ask(v));
        CaveLegs none = Check.caveOf("C2l0110321");
        due("17 no blunder", none.ask(2), CaveLegs.NONE);
        due("17 but outside is an error", none.ask(4), CaveLegs.OUTSIDE);
        due("17 on both sides", none.ask(-1), CaveLegs.OUTSIDE);
    }

    private static void connectedStationsFromOneToSix() {
        CaveLegs x = Check.caveOf("C6");
        int set = 1;
        due("17 the entrance", x.ask(0), set);
        for (int station = 5; station >= 1; station--) {
            x.measure(station, 0, 10, 3, 2, 1);
            set |= 1 << station;
            due("17 with station " + station, x.ask(0), set);
        }
        due("17 all six", set, 63);
    }

    private static void loopsFromNoneToSeven() {
        due("17 one station", new CaveLegs().ask(1), 0);
        CaveLegs x = Check.caveOf("C2");
        due("17 no legs", x.ask(1), 0);
        for (int legs = 1; legs <= 8; legs++) {
            x.measure(legs % 2, 1 - legs % 2, 10, 3, 2, 1);
            due("17 loops of " + legs + " legs", x.ask(1), legs - 1);
        }
        due("17 a loop out of reach", Check.caveOf("C4l2310321l3210321").ask(1), 0);
        due("17 and one in reach", Check.caveOf("C4l2310321l3210321l0110321l0110321").ask(1), 1);
        due("17 a tree", Check.caveOf(chain("10321")).ask(1), 0);
        due("17 a ring", Check.caveOf(chain("10321") + "l5010321").ask(1), 1);
    }

    private static void noLegCanBeLeftOut() {
        ask("C1", 1, 0, CaveLegs.NONE, 0);
        ask("C6", 1, 0, CaveLegs.NONE, 0);
        ask("C2l0110321", 3, 0, CaveLegs.NONE, 0);
        ask(chain("10321"), 63, 0, CaveLegs.NONE, 0);
    }

    private static void aLegThatIsNotConnectedCanBeLeftOut() {
        ask("C3l1210321", 1, 0, 0, 1);
        ask("C4l0110321l2310321", 3, 0, 1, 2);
        ask("C4l2310321l0110321", 3, 0, 0, 1);
        // all sums are 0: the lowest leg, connected or not
        ask("C4l2310321l0110321l0110321", 3, 1, 0, 7);
        ask("C4l0110321l0110321l2310321", 3, 1, 0, 7);
        // with it the sum stays as it is, which is not the smallest one
        ask("C4l2310321l0110321l0113321", 3, 1, 1, 6);
        // 10, 10, 14, 14 without one of them, or without the leg far off
        ask("C4l2310321l0110321l0110321l0114321l0114321", 3, 3, 1, 0);
    }

    private static void aLegThatConnectsCannotBeLeftOut() {
        // leg 0 leads to station 2 alone
        ask("C3l1210321l0110321l0113321", 7, 1, 1, 6);
        ask("C3l0110321l0113321l1210321", 7, 1, 0, 3);
        // in a ring each can be left out, the leg beside it cannot
        ask("C4l0110321l1210321l2010921l2310321", 15, 1, 0, 7);
    }

    private static void theLowestOfSeveralBlunders() {
        // two legs: without either the sum is 0
        ask("C2l0110321l0113321", 3, 1, 0, 3);
        // 10, 10, 7, 13: without 7 or 13 the sum is 6, without a 10 it is 18
        ask("C2l0110321l0110321l0107321l0113321", 3, 3, 2, 0);
        ask("C2l0110321l0107321l0110321l0113321", 3, 3, 1, 0);
        ask("C2l0113321l0110321l0110321l0107321", 3, 3, 0, 0);
    }

    private static void theLastLegIsTheBlunder() {
        ask(EIGHT, 3, 7, 7, 128);
        ask("C2l0102321" + "l0101321".repeat(7), 3, 7, 0, 1);
        ask("C2l0101321l0102321" + "l0101321".repeat(6), 3, 7, 1, 2);
    }

    /** A triangle, with the leg 0-1 twice. Sums are over 9 without leg 0 or 3, over 4 without 1 or 2. */
    private static void squareSumsOfDifferentDenominators() {
        // without leg 3 it is 4/3, without leg 0 16/3, without leg 1 or 2 it is 2
        ask("C3l0110321l1210321l2018921l0112321", 7, 2, 3, 0);
        // without leg 3 it is 100/3, without leg 0 81/3, without leg 1 or 2 it is 1/2
        ask("C3l0110321l1210321l2030921l0111321", 7, 2, 1, 0);
    }

    private static void legsWithoutWhichTheSquareSumIs0() {
        // 10, 10, 13: the last alone
        ask("C2l0110321l0110321l0113321", 3, 2, 2, 4);
        // 10, 10, 10: each
        ask("C2l0110321l0110321l0110321", 3, 2, 0, 7);
        // 10, 10, 13, 13: none
        ask("C2l0110321l0110321l0113321l0113321", 3, 3, 0, 0);
        // a small error in one component, east, north or up, is none the less one
        ask("C2l0110321l0110321l0111321l0111321", 3, 3, 0, 0);
        ask("C2l0110021l0110021l0111021l0111021", 3, 3, 0, 0);
        ask("C2l0102331l0102331l0102311l0102311", 3, 3, 0, 0);
        // eight legs without fault
        ask("C2" + "l0110321".repeat(8), 3, 7, 0, 255);
    }
}
