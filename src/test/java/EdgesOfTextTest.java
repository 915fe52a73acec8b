/**
 * The boundary cases of THE TEXT and of promises 1 to 5. Each method is a
 * sentence of the document, at the last value that is allowed and the first
 * one that is not.
 */
public final class EdgesOfTextTest {
    private static final String DIGITS = "0123456789";
    private static final String LEG = "l0110321";

    public static void main(String[] args) {
        worldsAreAsTold();
        aNewObjectHasNothing();
        objectsShareNothing();
        letterIsFrom0To255();
        lettersAreNotCutToABit();
        textHasAtMost70Characters();
        outsideComesBeforeFull();
        wipeAnswersTheLengthThatItHad();
        wipeMakesRoomFor70();
        theTextBeginsWithC();
        stationsAreFrom1To6();
        legsBeginWithL();
        fromIsAStation();
        toIsAnotherStation();
        firstDigitOfTheLength();
        lengthIsFrom01To99();
        bearingIsFrom0To9OrAOrB();
        slopeIsFrom0To4();
        widthIsFrom1To9();
        thereAreNoBlanks();
        aCaveNeedsNoLegs();
        thereAreAtMostEightLegs();
        noLegIfNIs1();
        severalLegsCanConnectTheSameStations();
        theFirstErrorCountsWhateverFollows();
        anIncompleteTextHasItsErrorAtItsLength();
        faultIsNoneOnlyForACave();
        caveIsRefusedIfTheTextHasAnError();
        caveAnswersTheNumberOfLegs();
        caveReplacesThePresentOne();
        caveLeavesNothingToUndo();
        caveEmptiesBothSlots();
        caveOpensAllLegs();
        caveLeavesTextObservationsAndSeed();
        Check.end();
    }

    private static void due(String what, long got, long want) {
        Check.due(what, got, want);
    }

    private static CaveLegs written(String text) {
        CaveLegs x = new CaveLegs();
        Check.write(x, text);
        return x;
    }

    private static void fault(String text, int want) {
        CaveLegs x = written(text);
        due("fault of '" + text + "'", x.fault(), want);
        int legs = (text.length() - 2) / 8;
        due("cave of '" + text + "'", x.cave(), want == CaveLegs.NONE ? legs : CaveLegs.STATE);
    }

    /** Behind the text, which has no error yet, just these characters can stand. */
    private static void canFollow(String text, String allowed) {
        int at = text.length();
        for (int c = 0; c <= 255; c++) {
            CaveLegs x = written(text);
            due("length with " + c, x.write(c), at + 1);
            boolean ends = (at + 1 - 2) % 8 == 0 && at + 1 >= 2;
            int want = allowed.indexOf(c) < 0 ? at : ends ? CaveLegs.NONE : at + 1;
            due("fault of '" + text + "' and " + c, x.fault(), want);
        }
    }

    /** The same for a first leg and for an eighth one. */
    private static void canFollowInALeg(int n, String begun, String allowed) {
        canFollow("C" + n + begun, allowed);
        canFollow("C" + n + LEG.repeat(7) + begun, allowed);
    }

    private static void worldsAreAsTold() {
        for (World w : World.values()) {
            CaveLegs x = w.make();
            due("stations of " + w, x.count(1), w.stations);
            due("legs of " + w, x.count(2), w.legs);
            boolean full = w == World.FULL;
            boolean bare = w == World.NEW || w == World.READ;
            due("changes of " + w, x.count(4), bare ? 0 : 14);
            due("observations of " + w, x.count(5), w == World.NEW ? 0 : full ? 6 : 3);
            due("characters of " + w, x.count(0), new int[] {0, 26, 5, 70}[w.ordinal()]);
            due("which of " + w, x.which(), new int[] {0, 2, 17, 20}[w.ordinal()]);
            if (!bare) {
                due("far station of " + w, x.laid(w.farStation, 0), CaveLegs.STATE);
                due("far leg of " + w, x.miss(w.farLeg, 0), CaveLegs.STATE);
                due("collapsed leg of " + w, x.count(3), 1 << w.fallenLeg);
            }
        }
    }

    // ---- promise 1

    private static void aNewObjectHasNothing() {
        CaveLegs x = new CaveLegs();
        for (int what = 0; what <= 5; what++) {
            due("1 count " + what, x.count(what), what == 1 ? 1 : 0);
        }
        due("1 station 0", x.widest(0, 0), 10);
        due("1 no station 1", x.widest(0, 1), CaveLegs.UNKNOWN);
        due("1 no leg 0", x.leg(0, 0), CaveLegs.UNKNOWN);
        due("1 nothing to undo", x.undo(), CaveLegs.STATE);
        due("1 slot 0 is empty", x.again(0), CaveLegs.STATE);
        due("1 slot 1 is empty", x.again(1), CaveLegs.STATE);
        due("1 no observation", x.unsee(), 0);
        due("1 the empty text", x.fault(), 0);
        due("1 no cave", x.cave(), CaveLegs.STATE);
        due("1 no characters", x.wipe(), 0);
        due("1 the seed", x.seed(1), 0);
    }

    private static void objectsShareNothing() {
        World.FULL.make();
        aNewObjectHasNothing();
        CaveLegs one = World.RICH.make();
        CaveLegs other = World.FULL.make();
        other.fall(0);
        other.keep(0);
        due("1 legs of the one", one.count(2), 5);
        due("1 collapsed legs of the one", one.count(3), 2);
        due("1 slot of the one", one.again(0), 4);
        due("1 characters of the one", one.wipe(), 5);
        due("1 characters of the other", other.wipe(), 70);
    }

    // ---- promises 2 and 3

    private static void letterIsFrom0To255() {
        CaveLegs x = new CaveLegs();
        due("2 letter 0", x.write(0), 1);
        due("2 letter 255", x.write(255), 2);
        due("2 both are written", x.count(0), 2);
        Refused.beyondEverywhere("2 write", 0, 255, CaveLegs.OUTSIDE, (y, w, v) -> y.write(v));
    }

    private static void lettersAreNotCutToABit() {
        CaveLegs x = new CaveLegs();
        due("2 256 and C", x.write(256 + 'C'), CaveLegs.OUTSIDE);
        due("2 C - 256", x.write('C' - 256), CaveLegs.OUTSIDE);
        due("2 65536 and C", x.write(65536 + 'C'), CaveLegs.OUTSIDE);
        due("2 none of them is written", x.count(0), 0);
        fault("C2l01" + (char) (128 + '1') + "0321", 5);
    }

    private static void textHasAtMost70Characters() {
        CaveLegs x = new CaveLegs();
        for (int k = 1; k <= 70; k++) {
            due("2 character " + k, x.write('l'), k);
        }
        due("2 character 71", x.write('l'), CaveLegs.FULL);
        due("2 and again", x.write(0), CaveLegs.FULL);
        due("2 the text has 70", x.count(0), 70);
        Refused.check("2 write C", CaveLegs.FULL, (y, w) -> y.write('C'), World.FULL);
        Refused.check("2 write 0", CaveLegs.FULL, (y, w) -> y.write(0), World.FULL);
        Refused.check("2 write 255", CaveLegs.FULL, (y, w) -> y.write(255), World.FULL);
    }

    private static void outsideComesBeforeFull() {
        Refused.check("2 write -1, outside first", CaveLegs.OUTSIDE, (y, w) -> y.write(-1), World.FULL);
        Refused.check("2 write 256, outside first", CaveLegs.OUTSIDE, (y, w) -> y.write(256), World.FULL);
    }

    private static void wipeAnswersTheLengthThatItHad() {
        CaveLegs x = new CaveLegs();
        due("3 of an empty text", x.wipe(), 0);
        x.write('C');
        due("3 of one character", x.wipe(), 1);
        due("3 of none then", x.wipe(), 0);
        Check.write(x, "l".repeat(69));
        due("3 of 69", x.wipe(), 69);
        Check.write(x, "l".repeat(70));
        x.write('l');
        due("3 of 70", x.wipe(), 70);
        due("3 of none again", x.wipe(), 0);
    }

    private static void wipeMakesRoomFor70() {
        CaveLegs x = written("C6" + "l0110321".repeat(8) + "l010");
        x.wipe();
        due("3 nothing of the old text", x.fault(), 0);
        x.write('C');
        due("3 nor behind the new one", x.fault(), 1);
        for (int k = 2; k <= 70; k++) {
            due("3 character " + k, x.write('x'), k);
        }
        due("3 and no more", x.write('x'), CaveLegs.FULL);
    }

    // ---- promise 4, character by character

    private static void theTextBeginsWithC() {
        canFollow("", "C");
    }

    private static void stationsAreFrom1To6() {
        canFollow("C", "123456");
        for (int n = 1; n <= 6; n++) {
            CaveLegs x = Check.caveOf("C" + n);
            due("stations", x.count(1), n);
            due("the last station of " + n, x.widest(n - 1, n - 1), 10);
            due("the first that does not exist of " + n, x.widest(n, n), CaveLegs.UNKNOWN);
        }
    }

    private static void legsBeginWithL() {
        for (int n = 2; n <= 6; n++) {
            canFollow("C" + n, "l");
        }
        canFollow("C2" + LEG, "l");
        canFollow("C2" + LEG.repeat(7), "l");
    }

    private static void fromIsAStation() {
        for (int n = 2; n <= 6; n++) {
            canFollowInALeg(n, "l", DIGITS.substring(0, n));
        }
    }

    private static void toIsAnotherStation() {
        for (int n = 2; n <= 6; n++) {
            for (int from = 0; from < n; from++) {
                canFollowInALeg(n, "l" + from, DIGITS.substring(0, n).replace("" + from, ""));
            }
        }
    }

    private static void firstDigitOfTheLength() {
        canFollowInALeg(2, "l01", DIGITS);
    }

    private static void lengthIsFrom01To99() {
        canFollowInALeg(2, "l010", DIGITS.substring(1));
        for (int tens = 1; tens <= 9; tens++) {
            canFollowInALeg(2, "l01" + tens, DIGITS);
        }
        due("length 01", Check.caveOf("C2l0101321").leg(0, 0), 1);
        due("length 09", Check.caveOf("C2l0109321").leg(0, 0), 9);
        due("length 90", Check.caveOf("C2l0190321").leg(0, 0), 90);
        due("length 99", Check.caveOf("C2l0199321").leg(0, 0), 99);
    }

    private static void bearingIsFrom0To9OrAOrB() {
        canFollowInALeg(2, "l0110", DIGITS + "ab");
        String all = DIGITS + "ab";
        for (int bearing = 0; bearing <= 11; bearing++) {
            due("bearing", Check.caveOf("C2l0110" + all.charAt(bearing) + "21").leg(0, 1), bearing);
        }
    }

    private static void slopeIsFrom0To4() {
        canFollowInALeg(2, "l01103", "01234");
        due("slope 0", Check.caveOf("C2l0110301").leg(0, 2), 0);
        due("slope 4", Check.caveOf("C2l0110341").leg(0, 2), 4);
    }

    private static void widthIsFrom1To9() {
        canFollowInALeg(2, "l011032", "123456789");
        due("width 1", Check.caveOf("C2l0110321").leg(0, 3), 1);
        due("width 9", Check.caveOf("C2l0110329").leg(0, 3), 9);
    }

    private static void thereAreNoBlanks() {
        String cave = "C2" + LEG + LEG;
        for (int at = 0; at <= cave.length(); at++) {
            fault(cave.substring(0, at) + " " + cave.substring(at), at);
        }
    }

    private static void aCaveNeedsNoLegs() {
        for (int n = 1; n <= 6; n++) {
            fault("C" + n, CaveLegs.NONE);
        }
    }

    private static void thereAreAtMostEightLegs() {
        fault("C2" + LEG.repeat(7), CaveLegs.NONE);
        fault("C2" + LEG.repeat(7) + "l", 59);
        fault("C2" + LEG.repeat(8), CaveLegs.NONE);
        fault("C2" + LEG.repeat(8) + "l", 66);
        fault("C2" + LEG.repeat(8) + "l011", 66);
        fault("C6" + LEG.repeat(8) + "l45", 66);
        canFollow("C2" + LEG.repeat(8), "");
    }

    private static void noLegIfNIs1() {
        canFollow("C1", "");
        fault("C1l", 2);
        fault("C1l0110321", 2);
        fault("C2l", 3);
        fault("C2l0110321", CaveLegs.NONE);
    }

    private static void severalLegsCanConnectTheSameStations() {
        fault("C2" + LEG + LEG, CaveLegs.NONE);
        fault("C2" + LEG + "l1010321", CaveLegs.NONE);
        fault("C2" + LEG.repeat(8), CaveLegs.NONE);
    }

    private static void theFirstErrorCountsWhateverFollows() {
        String[] wrong = {"x", "C7", "C2x", "C2l2", "C2l00", "C2l01x", "C2l0100", "C2l0110c", "C2l011035", "C2l0110320", "C2l0110321C"};
        for (String text : wrong) {
            CaveLegs x = written(text);
            int at = text.length() - 1;
            due("fault of " + text, x.fault(), at);
            for (char c : ("l0110321C2" + LEG).toCharArray()) {
                x.write(c);
                due("fault of " + text + " and more", x.fault(), at);
            }
        }
        // a right cave behind an error, and a later error of another kind
        fault("c2" + LEG, 0);
        fault("C0" + LEG + "x", 1);
        fault("C2l0010321l0000000", 4);
    }

    private static void anIncompleteTextHasItsErrorAtItsLength() {
        String whole = "C6" + "l5499b49l0501001".repeat(4);
        CaveLegs x = new CaveLegs();
        due("fault of the empty text", x.fault(), 0);
        for (int length = 1; length <= whole.length(); length++) {
            x.write(whole.charAt(length - 1));
            due("fault at length " + length, x.fault(), length % 8 == 2 ? CaveLegs.NONE : length);
        }
        due("legs", x.cave(), 8);
    }

    private static void faultIsNoneOnlyForACave() {
        due("4 of the empty text", new CaveLegs().fault(), 0);
        CaveLegs x = Check.caveOf("C2" + LEG);
        due("4 of a cave", x.fault(), CaveLegs.NONE);
        x.write(0);
        due("4 and a character more", x.fault(), 10);
        x.wipe();
        due("4 not of the cave that was read", x.fault(), 0);
    }

    // ---- promise 5

    private static void caveIsRefusedIfTheTextHasAnError() {
        Refused.check("5 cave", CaveLegs.STATE, (x, w) -> x.cave(), World.NEW, World.RICH, World.FULL);
        String[] wrong = {"", "C", "C7", "C1l", "C2l", "C2l0110320", "C2" + LEG + "x", "C2" + LEG.repeat(8) + "l"};
        for (String text : wrong) {
            CaveLegs x = written("C3l2199b48");
            x.cave();
            x.fall(0);
            x.keep(1);
            x.wipe();
            Check.write(x, text);
            due("5 cave of '" + text + "'", x.cave(), CaveLegs.STATE);
            due("5 the text stays", x.count(0), text.length());
            due("5 the stations stay", x.count(1), 3);
            due("5 the legs stay", x.leg(0, 0), 99);
            due("5 collapsed legs stay", x.count(3), 1);
            due("5 changes stay", x.undo(), 0);
            due("5 the slot stays", x.again(1), 1);
        }
    }

    private static void caveAnswersTheNumberOfLegs() {
        for (int legs = 0; legs <= 8; legs++) {
            CaveLegs x = written("C2" + LEG.repeat(legs));
            due("5 legs", x.cave(), legs);
            due("5 legs then", x.count(2), legs);
            due("5 no leg " + legs, x.leg(legs, 0), CaveLegs.UNKNOWN);
        }
    }

    private static void caveReplacesThePresentOne() {
        CaveLegs x = World.FULL.make();
        x.wipe();
        Check.write(x, "C1");
        due("5 no legs", x.cave(), 0);
        due("5 one station", x.count(1), 1);
        due("5 no station 1", x.must(1), CaveLegs.UNKNOWN);
        due("5 no leg 0", x.fall(0), CaveLegs.UNKNOWN);
        due("5 the entrance alone", x.ask(0), 1);
        x.wipe();
        Check.write(x, "C6" + LEG.repeat(8));
        due("5 eight legs", x.cave(), 8);
        due("5 station 5", x.must(5), 0);
        due("5 the same text again", x.cave(), 8);
        due("5 eight legs still", x.count(2), 8);
    }

    private static void caveLeavesNothingToUndo() {
        CaveLegs x = World.READ.make();
        due("5 no changes", x.count(4), 0);
        due("5 no undo", x.undo(), CaveLegs.STATE);
        x.fall(2);
        due("5 the first change", x.count(4), 1);
        due("5 its undo", x.undo(), 0);
        due("5 no second undo", x.undo(), CaveLegs.STATE);
        due("5 the legs that were read", x.count(2), 3);
    }

    private static void caveEmptiesBothSlots() {
        CaveLegs x = World.READ.make();
        due("5 slot 0", x.again(0), CaveLegs.STATE);
        due("5 slot 1", x.again(1), CaveLegs.STATE);
        x.keep(1);
        due("5 slot 0 still", x.again(0), CaveLegs.STATE);
        due("5 slot 1 is filled", x.again(1), 3);
        x.cave();
        due("5 slot 1 is empty again", x.again(1), CaveLegs.STATE);
    }

    private static void caveOpensAllLegs() {
        CaveLegs x = Check.caveOf("C2" + LEG.repeat(8));
        for (int leg = 0; leg < 8; leg++) {
            x.fall(leg);
        }
        due("5 all collapsed", x.count(3), 255);
        x.cave();
        due("5 none collapsed", x.count(3), 0);
    }

    private static void caveLeavesTextObservationsAndSeed() {
        CaveLegs x = World.FULL.make();
        x.wipe();
        Check.write(x, "C6" + LEG.repeat(8));
        x.cave();
        due("5 the text", x.count(0), 66);
        due("5 room for four characters", x.write('l'), 67);
        due("5 the observations", x.count(5), 6);
        due("5 no seventh", x.see(0, 0, 10, 1), CaveLegs.FULL);
        due("5 the seed", x.seed(0), -987654321);
    }
}
