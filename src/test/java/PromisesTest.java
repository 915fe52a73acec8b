/** Promises 1 to 31, each with answers worked out by hand from the document. */
public final class PromisesTest {
    /** A loop of three legs: 10 east, 10 north, 10 west. It misses by 10 north. */
    private static final String LOOP = "C3l0110321l1210021l2010921";

    /** Three legs from 0 to 1: 10, 10 and 13 east. */
    private static final String TRIPLE = "C2l0110321l0110321l0113321";

    /** 0-1 of width 5, 1-2 of width 3, 0-2 of width 2; station 3 is alone. */
    private static final String WIDTHS = "C4l0110325l1210323l0210322";

    /** 0-1, then two legs from 1 to 2. */
    private static final String FORK = "C3l0110321l1210321l1210321";

    public static void main(String[] args) {
        p01New();
        p02Write();
        p03Wipe();
        p04Fault();
        p05Cave();
        p06Leg();
        p07Measure();
        p08Take();
        p09Read();
        p10Fall();
        p11Undo();
        p12Laid();
        p13Miss();
        p14Evened();
        p15Rest();
        p16Squares();
        p17Ask();
        p18Widest();
        p19Come();
        p20Must();
        p21JudgeRange();
        p21JudgeChanges();
        p21JudgeStatements();
        p22See();
        p23Unsee();
        p24Which();
        p25Share();
        p26Falls();
        p27Seed();
        p28Drawn();
        p29Keep();
        p30Again();
        p31Count();
        Check.end();
    }

    private static void due(String what, long got, long want) {
        Check.due(what, got, want);
    }

    private static void p01New() {
        CaveLegs x = new CaveLegs();
        due("1 text", x.count(0), 0);
        due("1 stations", x.count(1), 1);
        due("1 legs", x.count(2), 0);
        due("1 collapsed", x.count(3), 0);
        due("1 changes", x.count(4), 0);
        due("1 observations", x.count(5), 0);
        due("1 slot 0", x.again(0), CaveLegs.STATE);
        due("1 slot 1", x.again(1), CaveLegs.STATE);
        due("1 seed", x.seed(5), 0);
        due("1 UNKNOWN", CaveLegs.UNKNOWN, -1);
        due("1 OUTSIDE", CaveLegs.OUTSIDE, -2);
        due("1 STATE", CaveLegs.STATE, -3);
        due("1 FULL", CaveLegs.FULL, -4);
        due("1 NONE", CaveLegs.NONE, -9);
    }

    private static void p02Write() {
        CaveLegs x = new CaveLegs();
        due("2 below", x.write(-1), CaveLegs.OUTSIDE);
        due("2 above", x.write(256), CaveLegs.OUTSIDE);
        due("2 nothing written", x.count(0), 0);
        for (int i = 1; i <= 70; i++) {
            due("2 letter " + i, x.write(i % 2 == 0 ? 0 : 255), i);
        }
        due("2 full", x.write('C'), CaveLegs.FULL);
        due("2 full, but outside first", x.write(256), CaveLegs.OUTSIDE);
        due("2 length", x.count(0), 70);
    }

    private static void p03Wipe() {
        CaveLegs x = new CaveLegs();
        due("3 empty", x.wipe(), 0);
        Check.write(x, "C2l");
        due("3 three", x.wipe(), 3);
        due("3 length", x.count(0), 0);
        due("3 again", x.wipe(), 0);
        Check.write(x, "C2");
        due("3 a fresh text", x.fault(), CaveLegs.NONE);
    }

    private static void fault(String text, int want) {
        CaveLegs x = new CaveLegs();
        Check.write(x, text);
        due("4 fault of '" + text + "'", x.fault(), want);
        due("4 cave of '" + text + "'", x.cave(), want == CaveLegs.NONE ? (text.length() - 2) / 8 : CaveLegs.STATE);
    }

    private static void p04Fault() {
        fault("", 0);
        fault("c", 0);
        fault("c1", 0);
        fault("C", 1);
        fault("C0", 1);
        fault("C7", 1);
        fault("Ca", 1);
        fault("C1", CaveLegs.NONE);
        fault("C6", CaveLegs.NONE);
        fault("C1l", 2);
        fault("C1 ", 2);
        fault("C1l0010321", 2);
        fault("C2L", 2);
        fault("C2l", 3);
        fault("C2l2", 3);
        fault("C2la", 3);
        fault("C2l0", 4);
        fault("C2l00", 4);
        fault("C2l02", 4);
        fault("C2l11", 4);
        fault("C2l01", 5);
        fault("C2l01a", 5);
        fault("C2l010", 6);
        fault("C2l0100", 6);
        fault("C2l010a", 6);
        fault("C2l011a", 6);
        fault("C2l011l", 6);
        fault("C2l0101", 7);
        fault("C2l0199c", 7);
        fault("C2l0199A", 7);
        fault("C2l0199b", 8);
        fault("C2l0199b5", 8);
        fault("C2l0199b4", 9);
        fault("C2l0199b40", 9);
        fault("C2l0199b4a", 9);
        fault("C2l0199b49", CaveLegs.NONE);
        fault("C2l0101a01", CaveLegs.NONE);
        fault("C2l0199b49 ", 10);
        fault("C2l0199b49C", 10);
        fault("C2l0199b49l", 11);
        fault("C6l5410001l4501021", CaveLegs.NONE);
        String eight = "C3" + "l0210321".repeat(8);
        fault(eight, CaveLegs.NONE);
        fault(eight + "l", 66);
        fault(eight + "l021", 66);
        fault("x" + eight, 0);
        fault("C2l01" + (char) 178 + "0321", 5);
    }

    private static void p05Cave() {
        CaveLegs x = Check.caveOf(TRIPLE);
        x.fall(0);
        x.keep(0);
        x.keep(1);
        x.see(0, 1, 3, 1);
        x.seed(77);
        due("5 the text stays", x.count(0), TRIPLE.length());
        x.write('?');
        due("5 a text with an error", x.cave(), CaveLegs.STATE);
        due("5 then nothing changes: collapsed", x.count(3), 1);
        due("5 then nothing changes: changes", x.count(4), 1);
        due("5 then nothing changes: slot", x.again(0), 3);
        x.fall(1);
        x.wipe();
        Check.write(x, "C4l3205b47");
        due("5 legs", x.cave(), 1);
        due("5 stations", x.count(1), 4);
        due("5 count of legs", x.count(2), 1);
        due("5 none collapsed", x.count(3), 0);
        due("5 no change", x.count(4), 0);
        due("5 no undo", x.undo(), CaveLegs.STATE);
        due("5 slot 0 empty", x.again(0), CaveLegs.STATE);
        due("5 slot 1 empty", x.again(1), CaveLegs.STATE);
        due("5 text", x.count(0), 10);
        due("5 observations stay", x.count(5), 1);
        due("5 seed stays", x.seed(0), 77);
        int[] row = {5, 11, 4, 7, 3, 2, 0};
        for (int what = 0; what < row.length; what++) {
            due("5 property " + what, x.leg(0, what), row[what]);
        }
        x.wipe();
        Check.write(x, "C1");
        due("5 no legs", x.cave(), 0);
        due("5 one station", x.count(1), 1);
        due("5 no leg left", x.leg(0, 0), CaveLegs.UNKNOWN);
    }

    private static void vector(int tape, int bearing, int slope, int east, int north, int up) {
        CaveLegs x = Check.caveOf("C2");
        x.measure(0, 1, tape, bearing, slope, 1);
        String name = "6 vector of " + tape + " " + bearing + " " + slope;
        due(name + " east", x.leg(0, 7), 100 + east);
        due(name + " north", x.leg(0, 8), 100 + north);
        due(name + " up", x.leg(0, 9), 100 + up);
    }

    private static void p06Leg() {
        CaveLegs x = Check.caveOf("C3l2137a13l0199318");
        int[] row = {37, 10, 1, 3, 2, 1, 0};
        for (int what = 0; what < row.length; what++) {
            due("6 property " + what, x.leg(0, what), row[what]);
        }
        due("6 not collapsed", x.leg(1, 6), 0);
        x.fall(1);
        due("6 collapsed", x.leg(1, 6), 1);
        due("6 no leg -1", x.leg(-1, 0), CaveLegs.UNKNOWN);
        due("6 no leg 2", x.leg(2, 0), CaveLegs.UNKNOWN);
        due("6 leg first", x.leg(2, 10), CaveLegs.UNKNOWN);
        due("6 what -1", x.leg(0, -1), CaveLegs.OUTSIDE);
        due("6 what 10", x.leg(0, 10), CaveLegs.OUTSIDE);
        vector(99, 0, 2, 0, 99, 0);
        vector(99, 1, 2, 49, 86, 0);
        vector(99, 2, 2, 86, 49, 0);
        vector(99, 3, 2, 99, 0, 0);
        vector(99, 4, 2, 86, -49, 0);
        vector(99, 5, 2, 49, -86, 0);
        vector(99, 6, 2, 0, -99, 0);
        vector(99, 7, 2, -49, -86, 0);
        vector(99, 8, 2, -86, -49, 0);
        vector(99, 9, 2, -99, 0, 0);
        vector(99, 10, 2, -86, 49, 0);
        vector(99, 11, 2, -49, 86, 0);
        vector(99, 1, 3, 43, 74, 49);
        vector(99, 1, 1, 43, 74, -49);
        vector(99, 7, 0, -24, -42, -86);
        vector(99, 7, 4, -24, -42, 86);
        vector(1, 3, 0, 0, 0, 0);
        vector(1, 3, 2, 1, 0, 0);
        vector(3, 9, 1, -2, 0, -1);
        vector(3, 9, 0, -1, 0, -2);
    }

    private static void p07Measure() {
        CaveLegs x = Check.caveOf("C3l0110321");
        due("7 second leg", x.measure(2, 1, 99, 11, 4, 9), 2);
        int[] row = {99, 11, 4, 9, 2, 1, 0};
        for (int what = 0; what < row.length; what++) {
            due("7 property " + what, x.leg(1, what), row[what]);
        }
        due("7 a change", x.count(4), 1);
        due("7 from unknown", x.measure(3, 1, 0, 0, 0, 1), CaveLegs.UNKNOWN);
        due("7 to unknown", x.measure(0, 3, 0, 0, 0, 1), CaveLegs.UNKNOWN);
        due("7 from below", x.measure(-1, 1, 1, 0, 0, 1), CaveLegs.UNKNOWN);
        due("7 to below", x.measure(0, -1, 1, 0, 0, 1), CaveLegs.UNKNOWN);
        due("7 both unknown and the same", x.measure(3, 3, 1, 0, 0, 1), CaveLegs.UNKNOWN);
        due("7 the same", x.measure(2, 2, 0, 0, 0, 1), CaveLegs.STATE);
        due("7 tape 0", x.measure(0, 1, 0, 0, 0, 1), CaveLegs.OUTSIDE);
        due("7 tape 100", x.measure(0, 1, 100, 0, 0, 1), CaveLegs.OUTSIDE);
        due("7 bearing -1", x.measure(0, 1, 1, -1, 0, 1), CaveLegs.OUTSIDE);
        due("7 bearing 12", x.measure(0, 1, 1, 12, 0, 1), CaveLegs.OUTSIDE);
        due("7 slope -1", x.measure(0, 1, 1, 0, -1, 1), CaveLegs.OUTSIDE);
        due("7 slope 5", x.measure(0, 1, 1, 0, 5, 1), CaveLegs.OUTSIDE);
        due("7 width 0", x.measure(0, 1, 1, 0, 0, 0), CaveLegs.OUTSIDE);
        due("7 width 10", x.measure(0, 1, 1, 0, 0, 10), CaveLegs.OUTSIDE);
        due("7 errors change nothing", x.count(4), 1);
        for (int legs = 3; legs <= 8; legs++) {
            due("7 leg " + legs, x.measure(0, 1, 1, 0, 0, 1), legs);
        }
        due("7 outside before full", x.measure(0, 1, 0, 0, 0, 1), CaveLegs.OUTSIDE);
        due("7 full", x.measure(0, 1, 1, 0, 0, 1), CaveLegs.FULL);
        due("7 eight legs", x.count(2), 8);
        due("7 full is no change", x.count(4), 7);
    }

    private static void p08Take() {
        CaveLegs x = Check.caveOf("C3l0111321l1222322l2033323");
        x.fall(2);
        due("8 no leg -1", x.take(-1), CaveLegs.UNKNOWN);
        due("8 no leg 3", x.take(3), CaveLegs.UNKNOWN);
        due("8 errors are no change", x.count(4), 1);
        due("8 take", x.take(1), 2);
        due("8 leg 0 stays", x.leg(0, 0), 11);
        due("8 leg 2 is 1 now", x.leg(1, 0), 33);
        due("8 and collapsed still", x.count(3), 2);
        due("8 no leg 2 then", x.leg(2, 0), CaveLegs.UNKNOWN);
        due("8 a change", x.count(4), 2);
        due("8 a collapsed leg", x.take(1), 1);
        due("8 none collapsed then", x.count(3), 0);
        due("8 the last", x.take(0), 0);
        due("8 none left", x.take(0), CaveLegs.UNKNOWN);
        CaveLegs y = Check.caveOf("C3l0111321l1222322l2033323");
        due("8 the first of three", y.take(0), 2);
        due("8 its follower's length", y.leg(0, 0), 22);
        due("8 its follower's width", y.leg(0, 3), 2);
        due("8 its follower's from", y.leg(0, 4), 1);
    }

    private static void p09Read() {
        CaveLegs x = Check.caveOf("C2l0111321");
        int[] was = {11, 3, 2, 1};
        int[] least = {1, 0, 0, 1};
        int[] most = {99, 11, 4, 9};
        for (int what = 0; what < 4; what++) {
            due("9 below " + what, x.read(0, what, least[what] - 1), CaveLegs.OUTSIDE);
            due("9 above " + what, x.read(0, what, most[what] + 1), CaveLegs.OUTSIDE);
            due("9 least " + what, x.read(0, what, least[what]), was[what]);
            due("9 most " + what, x.read(0, what, most[what]), least[what]);
            due("9 the same " + what, x.read(0, what, most[what]), most[what]);
            due("9 property " + what, x.leg(0, what), most[what]);
        }
        due("9 changes", x.count(4), 12);
        due("9 what -1", x.read(0, -1, 1), CaveLegs.OUTSIDE);
        due("9 what 4", x.read(0, 4, 1), CaveLegs.OUTSIDE);
        due("9 leg 1", x.read(1, 0, 1), CaveLegs.UNKNOWN);
        due("9 leg first", x.read(-1, 4, 0), CaveLegs.UNKNOWN);
        due("9 errors are no change", x.count(4), 12);
    }

    private static void p10Fall() {
        CaveLegs x = Check.caveOf("C2l0111321l0111321");
        due("10 collapse", x.fall(1), 1);
        due("10 collapsed", x.count(3), 2);
        due("10 open", x.fall(1), 0);
        due("10 none", x.count(3), 0);
        due("10 changes", x.count(4), 2);
        due("10 leg 2", x.fall(2), CaveLegs.UNKNOWN);
        due("10 leg -1", x.fall(-1), CaveLegs.UNKNOWN);
        due("10 errors are no change", x.count(4), 2);
    }

    private static void p11Undo() {
        CaveLegs x = Check.caveOf("C2l0111321");
        due("11 nothing", x.undo(), CaveLegs.STATE);
        x.measure(1, 0, 22, 4, 1, 5);
        x.read(0, 0, 12);
        x.read(0, 0, 12);
        x.fall(1);
        x.take(0);
        due("11 take", x.undo(), 4);
        due("11 leg 0 is back", x.leg(0, 0), 12);
        due("11 leg 1 is collapsed", x.leg(1, 6), 1);
        due("11 fall", x.undo(), 3);
        due("11 leg 1 is open", x.leg(1, 6), 0);
        due("11 read of the same", x.undo(), 2);
        due("11 no difference", x.leg(0, 0), 12);
        due("11 read", x.undo(), 1);
        due("11 length", x.leg(0, 0), 11);
        due("11 measure", x.undo(), 0);
        due("11 one leg", x.count(2), 1);
        due("11 no more", x.undo(), CaveLegs.STATE);
        for (int tape = 21; tape <= 40; tape++) {
            x.read(0, 0, tape);
        }
        due("11 the latest 14", x.count(4), 14);
        for (int left = 13; left >= 0; left--) {
            due("11 undo to " + left, x.undo(), left);
            due("11 length at " + left, x.leg(0, 0), 26 + left);
        }
        due("11 no fifteenth", x.undo(), CaveLegs.STATE);
        due("11 length stays", x.leg(0, 0), 26);
    }

    private static void p12Laid() {
        CaveLegs x = Check.caveOf(LOOP);
        due("12 entrance", x.laid(0, 0), 1000);
        due("12 station 1 east", x.laid(1, 0), 1010);
        due("12 station 1 north", x.laid(1, 1), 1000);
        due("12 station 2 east", x.laid(2, 0), 1010);
        due("12 station 2 north", x.laid(2, 1), 1010);
        due("12 station 3", x.laid(3, 0), CaveLegs.UNKNOWN);
        due("12 station first", x.laid(-1, 3), CaveLegs.UNKNOWN);
        due("12 what -1", x.laid(1, -1), CaveLegs.OUTSIDE);
        due("12 what 3", x.laid(1, 3), CaveLegs.OUTSIDE);
        x.fall(0);
        due("12 collapsed legs count", x.laid(1, 0), 1010);
        CaveLegs order = Check.caveOf("C4l2105321l0110321l0207341");
        due("12 lowest leg first", order.laid(2, 0), 1005);
        due("12 against the leg", order.laid(2, 2), 1000);
        due("12 not connected", order.laid(3, 0), CaveLegs.STATE);
        due("12 outside first", order.laid(3, 3), CaveLegs.OUTSIDE);
        CaveLegs back = Check.caveOf("C2l1099301");
        due("12 backwards east", back.laid(1, 0), 951);
        due("12 backwards up", back.laid(1, 2), 1086);
        CaveLegs star = Check.caveOf("C6l0110321l0220021l0330921l0440621l0550321");
        due("12 a star, station 4", star.laid(4, 1), 960);
        due("12 a star, station 5", star.laid(5, 0), 1050);
    }

    private static void p13Miss() {
        CaveLegs x = Check.caveOf(LOOP);
        due("13 used leg", x.miss(0, 1), 1000);
        due("13 closing leg east", x.miss(2, 0), 1000);
        due("13 closing leg north", x.miss(2, 1), 1010);
        due("13 closing leg up", x.miss(2, 2), 1000);
        due("13 leg 3", x.miss(3, 0), CaveLegs.UNKNOWN);
        due("13 leg first", x.miss(-1, 3), CaveLegs.UNKNOWN);
        due("13 what -1", x.miss(2, -1), CaveLegs.OUTSIDE);
        due("13 what 3", x.miss(2, 3), CaveLegs.OUTSIDE);
        CaveLegs order = Check.caveOf("C5l2105321l0110321l0207341l3401021");
        due("13 east", order.miss(2, 0), 998);
        due("13 up", order.miss(2, 2), 1006);
        due("13 not connected", order.miss(3, 0), CaveLegs.STATE);
        due("13 outside first", order.miss(3, 3), CaveLegs.OUTSIDE);
    }

    private static void evened(CaveLegs x, int station, int what, long top, long bottom) {
        due("14 numerator " + station + " " + what, x.evened(station, what, true), top);
        due("14 denominator " + station + " " + what, x.evened(station, what, false), bottom);
    }

    private static void p14Evened() {
        CaveLegs x = Check.caveOf(LOOP);
        evened(x, 0, 0, 0, 1);
        evened(x, 1, 0, 10, 1);
        evened(x, 1, 1, -10, 3);
        evened(x, 2, 0, 10, 1);
        evened(x, 2, 1, 10, 3);
        evened(x, 2, 2, 0, 1);
        x.fall(2);
        evened(x, 1, 1, -10, 3);
        evened(Check.caveOf(TRIPLE), 1, 0, 11, 1);
        // a ring of six legs east: it misses by their sum, which is shared by six
        CaveLegs ring = Check.caveOf("C6l0110321l1210321l2310321l3410321l4510321l5010321");
        evened(ring, 5, 0, 0, 1);
        ring.read(5, 0, 15);
        evened(ring, 5, 0, -25, 6);
        evened(ring, 3, 0, -5, 2);
        for (int side = 0; side < 2; side++) {
            due("14 station 3", x.evened(3, 0, side == 0), CaveLegs.UNKNOWN);
            due("14 station first", x.evened(-1, 3, side == 0), CaveLegs.UNKNOWN);
            due("14 what -1", x.evened(0, -1, side == 0), CaveLegs.OUTSIDE);
            due("14 what 3", x.evened(0, 3, side == 0), CaveLegs.OUTSIDE);
            CaveLegs apart = Check.caveOf("C4l0110321l2310321");
            due("14 not connected", apart.evened(2, 0, side == 0), CaveLegs.STATE);
            due("14 outside first", apart.evened(2, 3, side == 0), CaveLegs.OUTSIDE);
        }
    }

    private static void rest(CaveLegs x, int leg, int what, long top, long bottom) {
        due("15 numerator " + leg + " " + what, x.rest(leg, what, true), top);
        due("15 denominator " + leg + " " + what, x.rest(leg, what, false), bottom);
    }

    private static void p15Rest() {
        CaveLegs x = Check.caveOf(LOOP);
        for (int leg = 0; leg < 3; leg++) {
            rest(x, leg, 0, 0, 1);
            rest(x, leg, 1, 10, 3);
            rest(x, leg, 2, 0, 1);
        }
        CaveLegs y = Check.caveOf(TRIPLE);
        rest(y, 0, 0, -1, 1);
        rest(y, 2, 0, 2, 1);
        CaveLegs apart = Check.caveOf("C4l0110321l2310321");
        for (int side = 0; side < 2; side++) {
            due("15 leg 3", x.rest(3, 0, side == 0), CaveLegs.UNKNOWN);
            due("15 leg first", x.rest(-1, 3, side == 0), CaveLegs.UNKNOWN);
            due("15 what -1", x.rest(0, -1, side == 0), CaveLegs.OUTSIDE);
            due("15 what 3", x.rest(0, 3, side == 0), CaveLegs.OUTSIDE);
            due("15 not connected", apart.rest(1, 0, side == 0), CaveLegs.STATE);
            due("15 outside first", apart.rest(1, 3, side == 0), CaveLegs.OUTSIDE);
        }
    }

    private static void squares(String text, long top, long bottom) {
        CaveLegs x = Check.caveOf(text);
        due("16 numerator of " + text, x.squares(true), top);
        due("16 denominator of " + text, x.squares(false), bottom);
    }

    private static void p16Squares() {
        squares("C1", 0, 1);
        squares("C6", 0, 1);
        squares("C3l0110321l1210021", 0, 1);
        squares(LOOP, 100, 3);
        squares(TRIPLE, 6, 1);
        // two legs that differ by 1 in one component
        squares("C2l0110321l0111321", 1, 2);
        // 8 up and 8 down beside each other
        squares("C2l0110341l0110301", 16 * 16 / 2, 1);
        squares("C4l0110321l2310321l2320321", 0, 1);
    }

    private static void ask(String text, int stations, int loops, int blunder, int menders) {
        CaveLegs x = Check.caveOf(text);
        due("17 connected in " + text, x.ask(0), stations);
        due("17 loops in " + text, x.ask(1), loops);
        due("17 blunder in " + text, x.ask(2), blunder);
        due("17 menders in " + text, x.ask(3), menders);
        for (int leg = 0; leg < x.count(2); leg++) {
            x.fall(leg);
        }
        due("17 connected, collapsed " + text, x.ask(0), stations);
        due("17 blunder, collapsed " + text, x.ask(2), blunder);
    }

    private static void p17Ask() {
        ask("C1", 1, 0, CaveLegs.NONE, 0);
        ask("C3l0110321l1210021", 7, 0, CaveLegs.NONE, 0);
        ask(LOOP, 7, 1, 0, 7);
        ask(TRIPLE, 3, 2, 2, 4);
        ask("C2l0110321l0113321", 3, 1, 0, 3);
        // leg 1 is not connected, so it can be left out
        ask("C4l0110321l2310321", 3, 0, 1, 2);
        ask("C4l2310321l0110321l0113321", 3, 1, 1, 6);
        // 10, 10, 13, 14: without 13 the sum is 32/3, without 14 it is 6
        ask("C2l0110321l0110321l0113321l0114321", 3, 3, 3, 0);
        CaveLegs x = Check.caveOf(LOOP);
        due("17 what -1", x.ask(-1), CaveLegs.OUTSIDE);
        due("17 what 4", x.ask(4), CaveLegs.OUTSIDE);
    }

    private static void p18Widest() {
        CaveLegs x = Check.caveOf(WIDTHS);
        due("18 by way of 1", x.widest(0, 2), 3);
        due("18 back", x.widest(2, 0), 3);
        due("18 direct", x.widest(0, 1), 5);
        due("18 no way", x.widest(0, 3), 0);
        due("18 width 1", Check.caveOf(LOOP).widest(1, 2), 1);
        due("18 five legs", Check.caveOf("C6l0110329l2110328l2310324l4310327l4510326").widest(5, 0), 4);
        due("18 itself", x.widest(3, 3), 10);
        x.fall(1);
        due("18 collapsed", x.widest(0, 2), 2);
        due("18 round", x.widest(1, 2), 2);
        due("18 station 4", x.widest(4, 0), CaveLegs.UNKNOWN);
        due("18 other 4", x.widest(0, 4), CaveLegs.UNKNOWN);
        due("18 station -1", x.widest(-1, -1), CaveLegs.UNKNOWN);
    }

    private static void p19Come() {
        CaveLegs x = Check.caveOf(WIDTHS);
        due("19 girth 1", x.come(1), 7);
        due("19 girth 3", x.come(3), 7);
        due("19 girth 4", x.come(4), 3);
        due("19 girth 5", x.come(5), 3);
        due("19 girth 6", x.come(6), 1);
        due("19 girth 9", x.come(9), 1);
        x.fall(0);
        due("19 collapsed", x.come(2), 7);
        due("19 collapsed, wider", x.come(3), 1);
        due("19 girth 0", x.come(0), CaveLegs.OUTSIDE);
        due("19 girth 10", x.come(10), CaveLegs.OUTSIDE);
    }

    private static void p20Must() {
        CaveLegs x = Check.caveOf(FORK);
        due("20 entrance", x.must(0), 0);
        due("20 station 1", x.must(1), 1);
        due("20 station 2", x.must(2), 1);
        x.fall(1);
        due("20 one of two collapsed", x.must(2), 5);
        x.fall(0);
        due("20 no way", x.must(2), 0);
        due("20 station 3", x.must(3), CaveLegs.UNKNOWN);
        due("20 station -1", x.must(-1), CaveLegs.UNKNOWN);
        CaveLegs loop = Check.caveOf(LOOP);
        due("20 in a loop", loop.must(2), 0);
    }

    private static void p21JudgeRange() {
        CaveLegs x = Check.caveOf(WIDTHS);
        due("21 n 0", x.judge(0, 0), CaveLegs.OUTSIDE);
        due("21 n -1", x.judge(-1, 0), CaveLegs.OUTSIDE);
        due("21 n 5", x.judge(5, 0), CaveLegs.OUTSIDE);
        due("21 negative", x.judge(1, -1), CaveLegs.OUTSIDE);
        due("21 lowest", x.judge(4, Long.MIN_VALUE), CaveLegs.OUTSIDE);
        due("21 five digits", x.judge(1, 10000), CaveLegs.OUTSIDE);
        due("21 nine digits", x.judge(2, 100000000L), CaveLegs.OUTSIDE);
        due("21 thirteen digits", x.judge(3, 1000000000000L), CaveLegs.OUTSIDE);
        due("21 seventeen digits", x.judge(4, 10000000000000000L), CaveLegs.OUTSIDE);
        due("21 highest", x.judge(4, Long.MAX_VALUE), CaveLegs.OUTSIDE);
        due("21 leading zeros", x.judge(2, 4013), 0);
        due("21 fewer digits are zeros before", x.judge(1, 0), 0);
        due("21 h 8", x.judge(1, 8000), 0);
        due("21 h 9", x.judge(1, 9000), 0);
        due("21 sixteen digits", x.judge(4, 9999999999999999L), 0);
    }

    private static void p21JudgeChanges() {
        CaveLegs x = Check.caveOf(WIDTHS);
        due("21 collapse", x.judge(2, 1100_4022L), CaveLegs.NONE);
        due("21 collapse narrows", x.judge(2, 1100_4023L), 1);
        due("21 collapse and open", x.judge(3, 1100_1100_4023L), CaveLegs.NONE);
        due("21 no leg", x.judge(1, 1300), 0);
        due("21 b of 1", x.judge(1, 1010), 0);
        due("21 v of 1", x.judge(1, 1001), 0);
        due("21 remove", x.judge(2, 2000_5000L), CaveLegs.NONE);
        due("21 remove renumbers", x.judge(4, 2000_2000_2000_2000L), 3);
        due("21 no leg to remove", x.judge(1, 2300), 0);
        due("21 b of 2", x.judge(1, 2010), 0);
        due("21 v of 2", x.judge(1, 2001), 0);
        // 0-1 and 1-2 are 10 each; leg 2 closes at length 20
        due("21 open loop", x.judge(1, 6200), 0);
        due("21 new length closes it", x.judge(2, 3220_6200L), CaveLegs.NONE);
        due("21 length 0", x.judge(1, 3200), 0);
        due("21 no leg to read", x.judge(1, 3320), 0);
        due("21 nothing changes: length", x.leg(2, 0), 10);
        due("21 nothing changes: legs", x.count(2), 3);
        due("21 nothing changes: collapsed", x.count(3), 0);
        due("21 nothing changes: changes", x.count(4), 0);
    }

    private static void p21JudgeStatements() {
        CaveLegs x = Check.caveOf("C5l0110325l1210323l0210322l3410321");
        due("21 width 3", x.judge(1, 4023), CaveLegs.NONE);
        due("21 width 4", x.judge(1, 4024), 0);
        due("21 width 0", x.judge(1, 4030), CaveLegs.NONE);
        due("21 width of itself", x.judge(1, 4339), CaveLegs.NONE);
        due("21 station a", x.judge(1, 4500), 0);
        due("21 station b", x.judge(1, 4050), 0);
        due("21 one loop", x.judge(1, 5010), CaveLegs.NONE);
        due("21 ten loops", x.judge(1, 5100), 0);
        due("21 v of 5", x.judge(1, 5011), 0);
        due("21 used leg closes", x.judge(1, 6000), CaveLegs.NONE);
        due("21 leg 2 does not", x.judge(1, 6200), 0);
        due("21 leg 3 is not connected", x.judge(1, 6300), 0);
        due("21 no leg 4", x.judge(1, 6400), 0);
        due("21 b of 6", x.judge(1, 6010), 0);
        due("21 v of 6", x.judge(1, 6001), 0);
        due("21 reached", x.judge(1, 7231), CaveLegs.NONE);
        due("21 not reached", x.judge(1, 7241), 0);
        due("21 cannot be reached", x.judge(1, 7240), CaveLegs.NONE);
        due("21 can be", x.judge(1, 7230), 0);
        due("21 girth 0", x.judge(1, 7200), 0);
        due("21 girth 0 and v 1", x.judge(1, 7201), 0);
        due("21 girth 1", x.judge(1, 7211), CaveLegs.NONE);
        due("21 v 2 where it cannot be reached", x.judge(1, 7242), 0);
        due("21 v of 7", x.judge(1, 7232), 0);
        due("21 no station", x.judge(1, 7510), 0);
        due("21 entrance", x.judge(1, 7091), CaveLegs.NONE);
        due("21 four items", x.judge(4, 4023_5010_7231_6000L), CaveLegs.NONE);
        due("21 the last fails", x.judge(4, 4023_5010_7231_6200L), 3);
        due("21 the first that fails", x.judge(4, 4023_5020_7241_6200L), 1);
    }

    private static void p22See() {
        CaveLegs x = Check.caveOf(WIDTHS);
        due("22 station", x.see(4, 0, 11, 0), CaveLegs.UNKNOWN);
        due("22 other", x.see(0, -1, 0, 2), CaveLegs.UNKNOWN);
        due("22 v -1", x.see(0, 1, -1, 0), CaveLegs.OUTSIDE);
        due("22 v 11", x.see(0, 1, 11, 0), CaveLegs.OUTSIDE);
        due("22 was -1", x.see(0, 1, 0, -1), CaveLegs.OUTSIDE);
        due("22 was 2", x.see(0, 1, 0, 2), CaveLegs.OUTSIDE);
        due("22 errors add none", x.count(5), 0);
        due("22 least v", x.see(3, 3, 0, 0), 1);
        x.unsee();
        for (int k = 1; k <= 6; k++) {
            due("22 observation " + k, x.see(0, 0, 10, 1), k);
        }
        due("22 outside before full", x.see(0, 0, 11, 1), CaveLegs.OUTSIDE);
        due("22 full", x.see(0, 0, 10, 1), CaveLegs.FULL);
        due("22 six", x.count(5), 6);
        due("22 no change", x.count(4), 0);
    }

    private static void p23Unsee() {
        CaveLegs x = Check.caveOf(WIDTHS);
        due("23 none", x.unsee(), 0);
        x.see(0, 2, 9, 1);
        x.see(0, 2, 8, 1);
        due("23 which none", x.which(), 0);
        due("23 two", x.unsee(), 2);
        due("23 none then", x.count(5), 0);
        due("23 which all", x.which(), 7);
        due("23 first again", x.see(0, 0, 10, 1), 1);
    }

    private static void p24Which() {
        CaveLegs x = Check.caveOf(WIDTHS);
        due("24 no observation", x.which(), 7);
        x.see(0, 2, 2, 1);
        due("24 width 2 is left", x.which(), 3);
        x.see(0, 1, 5, 0);
        due("24 not 5", x.which(), 1);
        x.fall(0);
        // without 0-1, the collapse of 1-2 leaves 0-2 of width 2; that of 0-2 leaves nothing
        due("24 open legs alone", x.which(), 2);
        x.undo();
        x.see(3, 3, 10, 1);
        due("24 itself", x.which(), 1);
        x.see(0, 3, 7, 1);
        due("24 not possible", x.which(), 0);
        x.wipe();
        Check.write(x, "C3l0110325l1210323l0210322");
        x.cave();
        due("24 station 3 is no more", x.which(), 1);
        x.wipe();
        Check.write(x, WIDTHS);
        x.cave();
        due("24 station 3 is back", x.which(), 0);
        CaveLegs narrow = Check.caveOf("C3l0110321l0210322");
        for (int k = 0; k < 5; k++) {
            narrow.see(0, 0, 10, 1);
        }
        due("24 a leg of width 1", narrow.which(), 3);
        narrow.see(0, 1, 0, 0);
        due("24 the sixth counts too", narrow.which(), 2);
    }

    private static void share(CaveLegs x, int leg, int top, int bottom) {
        due("25 numerator " + leg, x.share(leg, true), top);
        due("25 denominator " + leg, x.share(leg, false), bottom);
    }

    private static void p25Share() {
        CaveLegs path = Check.caveOf("C4l0110321l1210321");
        share(path, 0, 3, 2);
        share(path, 1, 1, 2);
        path.measure(3, 2, 1, 0, 0, 1);
        // 0-1, 1-2, 2-3: in the order of arrival each opens what hangs behind it
        share(path, 0, 11, 6);
        share(path, 1, 5, 6);
        share(path, 2, 1, 3);
        path.fall(1);
        share(path, 0, 1, 1);
        share(path, 2, 0, 1);
        due("25 collapsed", path.share(1, true), CaveLegs.STATE);
        due("25 collapsed below", path.share(1, false), CaveLegs.STATE);
        due("25 leg 3", path.share(3, true), CaveLegs.UNKNOWN);
        due("25 leg -1", path.share(-1, false), CaveLegs.UNKNOWN);
        CaveLegs twin = Check.caveOf("C2l0110321l1010321");
        share(twin, 0, 1, 2);
        share(twin, 1, 1, 2);
        CaveLegs eight = Check.caveOf("C2" + "l0110321".repeat(8));
        share(eight, 7, 1, 8);
    }

    private static void falls(CaveLegs x, int station, int g, int tenths, int top, int bottom) {
        String name = " for " + station + " " + g + " " + tenths;
        due("26 numerator" + name, x.falls(station, g, tenths, true), top);
        due("26 denominator" + name, x.falls(station, g, tenths, false), bottom);
    }

    private static void p26Falls() {
        CaveLegs x = Check.caveOf("C4l0110325l1210323");
        falls(x, 0, 9, 10, 1, 1);
        falls(x, 1, 1, 3, 7, 10);
        falls(x, 2, 1, 3, 49, 100);
        falls(x, 2, 3, 4, 9, 25);
        falls(x, 2, 4, 3, 0, 1);
        falls(x, 1, 5, 5, 1, 2);
        falls(x, 2, 1, 0, 1, 1);
        falls(x, 2, 1, 10, 0, 1);
        falls(x, 3, 1, 0, 0, 1);
        x.measure(0, 2, 1, 0, 0, 9);
        // 0-2 holds with 7/10; else 49/100 by way of 1
        falls(x, 2, 1, 3, 847, 1000);
        x.fall(2);
        falls(x, 2, 1, 3, 49, 100);
        CaveLegs eight = Check.caveOf("C2" + "l0110321".repeat(8));
        falls(eight, 1, 1, 9, 56953279, 100000000);
        for (int side = 0; side < 2; side++) {
            due("26 station 4", x.falls(4, 0, 11, side == 0), CaveLegs.UNKNOWN);
            due("26 station -1", x.falls(-1, 1, 1, side == 0), CaveLegs.UNKNOWN);
            due("26 girth 0", x.falls(0, 0, 1, side == 0), CaveLegs.OUTSIDE);
            due("26 girth 10", x.falls(0, 10, 1, side == 0), CaveLegs.OUTSIDE);
            due("26 tenths -1", x.falls(0, 1, -1, side == 0), CaveLegs.OUTSIDE);
            due("26 tenths 11", x.falls(0, 1, 11, side == 0), CaveLegs.OUTSIDE);
        }
    }

    private static void p27Seed() {
        CaveLegs x = new CaveLegs();
        due("27 first", x.seed(Long.MIN_VALUE), 0);
        due("27 second", x.seed(-1), Long.MIN_VALUE);
        due("27 third", x.seed(0), -1);
        x.drawn(1);
        due("27 after a step", x.seed(0), 1442695040888963407L);
    }

    private static void p28Drawn() {
        CaveLegs x = new CaveLegs();
        x.seed(2);
        due("28 no legs", x.drawn(2), 0);
        due("28 seed goes on", x.seed(9), -1528937621280405244L);
        due("28 m 0", x.drawn(0), CaveLegs.OUTSIDE);
        due("28 m 41", x.drawn(41), CaveLegs.OUTSIDE);
        due("28 errors leave the seed", x.seed(0), 9);
        // one leg: every step crosses it, so the walk is away after each odd step
        CaveLegs one = Check.caveOf("C2l1010321");
        due("28 one step", one.drawn(1), 1);
        due("28 two steps", one.drawn(2), 1);
        due("28 forty steps", one.drawn(40), 20);
        due("28 thirty-nine steps", one.drawn(39), 20);
        one.fall(0);
        due("28 collapsed", one.drawn(40), 0);
        CaveLegs loop = Check.caveOf(LOOP);
        due("28 loop, 7 steps", loop.drawn(7), 5);
        due("28 loop, the seed then", loop.seed(-1), 1459328389850446429L);
        due("28 loop, 40 steps", loop.drawn(40), 28);
        due("28 loop, the seed then", loop.seed(12345), -968890341617235545L);
        loop.fall(1);
        due("28 loop, leg 1 collapsed", loop.drawn(23), 12);
        due("28 collapsed legs are drawn too", loop.seed(0), 4090583644128083082L);
        due("28 nothing else changes", loop.count(4), 1);
    }

    private static void p29Keep() {
        CaveLegs x = Check.caveOf(LOOP);
        due("29 slot 2", x.keep(2), CaveLegs.UNKNOWN);
        due("29 slot -1", x.keep(-1), CaveLegs.UNKNOWN);
        x.fall(1);
        due("29 keep", x.keep(1), 3);
        due("29 no change", x.count(4), 1);
        x.take(0);
        due("29 keep in the other", x.keep(0), 2);
        due("29 again 1", x.again(1), 3);
        due("29 collapsed", x.count(3), 2);
        x.take(0);
        x.take(0);
        due("29 keep instead", x.keep(1), 1);
        due("29 again 0", x.again(0), 2);
        due("29 again what replaced", x.again(1), 1);
        CaveLegs none = new CaveLegs();
        due("29 no legs", none.keep(0), 0);
        due("29 no legs again", none.again(0), 0);
    }

    private static void p30Again() {
        CaveLegs x = Check.caveOf(LOOP);
        due("30 slot 2", x.again(2), CaveLegs.UNKNOWN);
        due("30 slot -1", x.again(-1), CaveLegs.UNKNOWN);
        due("30 empty", x.again(0), CaveLegs.STATE);
        x.keep(0);
        due("30 the other is empty", x.again(1), CaveLegs.STATE);
        x.read(1, 0, 55);
        x.fall(2);
        due("30 empty keeps changes", x.again(1), CaveLegs.STATE);
        due("30 two changes", x.count(4), 2);
        due("30 again", x.again(0), 3);
        due("30 length", x.leg(1, 0), 10);
        due("30 open", x.count(3), 0);
        due("30 no change", x.count(4), 0);
        due("30 no undo", x.undo(), CaveLegs.STATE);
        x.take(2);
        due("30 the slot keeps them", x.again(0), 3);
        x.read(0, 0, 77);
        due("30 the slot is no view", x.again(0), 3);
        due("30 length of leg 0", x.leg(0, 0), 10);
    }

    private static void p31Count() {
        CaveLegs x = Check.caveOf(WIDTHS);
        x.fall(0);
        x.fall(2);
        x.take(1);
        x.see(0, 1, 3, 0);
        due("31 characters", x.count(0), 26);
        due("31 stations", x.count(1), 4);
        due("31 legs", x.count(2), 2);
        due("31 collapsed", x.count(3), 3);
        due("31 changes", x.count(4), 3);
        due("31 observations", x.count(5), 1);
        due("31 what -1", x.count(-1), CaveLegs.OUTSIDE);
        due("31 what 6", x.count(6), CaveLegs.OUTSIDE);
    }
}
