/**
 * The boundary cases of PASSAGES, of OBSERVATIONS, and of promises 18 to 24.
 * Each method is a sentence of the document, at the last value that is allowed
 * and the first one that is not.
 */
public final class EdgesOfPassagesTest {
    private static final String LEG = "l0110321";

    /** 0-1 of width 5, 1-2 of width 3, 0-2 of width 2; 3-4 of width 9 is apart. */
    private static final String WIDTHS = "C5l0110325l1210323l0210322l3410329";

    public static void main(String[] args) {
        noWayIs0();
        aStationToItselfIs10();
        widthsAreFrom1To9();
        theNarrowestLegOfAWayCounts();
        theGreatestWidthOfSeveralWays();
        waysAreOfOpenLegs();
        waysGoInEitherDirection();
        widestRefuses();
        girthIsFrom1To9();
        theEntranceCanAlwaysBeReached();
        aWayOfJustTheGirth();
        allSixCanBeReached();
        mustOfTheEntranceIs0();
        mustIs0IfThereIsNoWay();
        mustNamesEachLegThatIsNeededAlone();
        mustRefuses();
        judgeTakesOneToFourItems();
        judgeTakesNoNegativeRow();
        judgeTakesAtMostFourDigitsAnItem();
        judgeAnswersNoneOnlyIfNoErrorApplies();
        judgeAnswersTheFirstThatFails();
        judgeKnowsTheItems1To7();
        judgeTurnsALeg();
        judgeRemovesALeg();
        judgeSetsALength();
        judgeOfAWidth();
        judgeOfLoops();
        judgeOfAMisclosure();
        judgeOfAGirth();
        judgeLetsLaterItemsSeeTheCopy();
        judgeChangesNothing();
        thereAreAtMost6Observations();
        theWidthOfAnObservationIsFrom0To10();
        anObservationWasOrWasNot();
        seeRefuses();
        seeChecksInItsOrder();
        unseeAnswersHowManyThereWere();
        unseeMakesRoomFor6();
        whichWithoutObservations();
        whichOfOpenLegsAlone();
        whichOfEachWidth();
        whichWantsAllObservations();
        whichIgnoresStationsThatDoNotExistAnyMore();
        Check.end();
    }

    private static void due(String what, long got, long want) {
        Check.due(what, got, want);
    }

    // ---- promise 18

    private static void noWayIs0() {
        due("18 no legs", Check.caveOf("C2").widest(0, 1), 0);
        CaveLegs x = Check.caveOf(WIDTHS);
        due("18 apart", x.widest(0, 3), 0);
        due("18 apart, back", x.widest(4, 2), 0);
        due("18 not apart", x.widest(3, 4), 9);
    }

    private static void aStationToItselfIs10() {
        due("18 one station", new CaveLegs().widest(0, 0), 10);
        CaveLegs x = Check.caveOf("C6" + LEG);
        x.fall(0);
        for (int station = 0; station < 6; station++) {
            due("18 to itself", x.widest(station, station), 10);
        }
    }

    private static void widthsAreFrom1To9() {
        for (int width = 1; width <= 9; width++) {
            CaveLegs x = Check.caveOf("C2l011032" + width);
            due("18 a leg of width " + width, x.widest(0, 1), width);
            due("18 back", x.widest(1, 0), width);
        }
    }

    private static void theNarrowestLegOfAWayCounts() {
        for (int narrow = 0; narrow < 5; narrow++) {
            CaveLegs x = Check.caveOf("C6l0110329l1210329l2310329l3410329l4510329");
            x.read(narrow, 3, 1);
            due("18 narrow leg " + narrow, x.widest(0, 5), 1);
            due("18 narrow leg back " + narrow, x.widest(5, 0), 1);
            x.read(narrow, 3, 8);
            due("18 less narrow leg " + narrow, x.widest(0, 5), 8);
        }
    }

    private static void theGreatestWidthOfSeveralWays() {
        CaveLegs x = Check.caveOf(WIDTHS);
        due("18 the wider way", x.widest(0, 2), 3);
        x.read(2, 3, 3);
        due("18 both the same", x.widest(0, 2), 3);
        x.read(2, 3, 4);
        due("18 the other way", x.widest(0, 2), 4);
        due("18 and round", x.widest(1, 2), 4);
        CaveLegs eight = Check.caveOf("C2l0110321l0110322l0110323l0110324l0110325l0110326l0110327l0110328");
        for (int leg = 7; leg >= 0; leg--) {
            due("18 the widest of " + leg, eight.widest(1, 0), leg + 1);
            eight.fall(leg);
        }
        due("18 none is open", eight.widest(1, 0), 0);
    }

    private static void waysAreOfOpenLegs() {
        CaveLegs x = Check.caveOf(WIDTHS);
        x.fall(0);
        due("18 round the collapsed leg", x.widest(0, 1), 2);
        x.fall(2);
        due("18 no way is left", x.widest(0, 1), 0);
        due("18 but to itself", x.widest(0, 0), 10);
        x.fall(0);
        due("18 opened again", x.widest(0, 1), 5);
    }

    private static void waysGoInEitherDirection() {
        CaveLegs x = Check.caveOf("C4l1010327l1210326l3210325");
        due("18 against, along, against", x.widest(0, 3), 5);
        due("18 along, against, along", x.widest(3, 0), 5);
        due("19 reached", x.come(5), 15);
        due("19 reached in part", x.come(6), 7);
        due("20 all three", x.must(3), 7);
    }

    private static void widestRefuses() {
        Refused.noSuchStation("18 widest from", (x, w, v) -> x.widest(v, 0));
        Refused.noSuchStation("18 widest to", (x, w, v) -> x.widest(0, v));
        Refused.noSuchStation("18 widest to itself", (x, w, v) -> x.widest(v, v));
    }

    // ---- promise 19

    private static void girthIsFrom1To9() {
        CaveLegs x = Check.caveOf("C3l0110321l0210329");
        due("19 girth 1", x.come(1), 7);
        due("19 girth 2", x.come(2), 5);
        due("19 girth 9", x.come(9), 5);
        Refused.beyondEverywhere("19 come", 1, 9, CaveLegs.OUTSIDE, (y, w, v) -> y.come(v));
    }

    private static void theEntranceCanAlwaysBeReached() {
        for (int g = 1; g <= 9; g++) {
            due("19 one station", new CaveLegs().come(g), 1);
            due("19 no legs", Check.caveOf("C6").come(g), 1);
            CaveLegs x = Check.caveOf("C2l0110329");
            x.fall(0);
            due("19 a collapsed leg", x.come(g), 1);
        }
    }

    private static void aWayOfJustTheGirth() {
        for (int width = 1; width <= 9; width++) {
            CaveLegs x = Check.caveOf("C3l011032" + width + "l1210329");
            for (int g = 1; g <= 9; g++) {
                due("19 girth " + g + " by width " + width, x.come(g), g <= width ? 7 : 1);
            }
        }
    }

    private static void allSixCanBeReached() {
        CaveLegs x = Check.caveOf("C6l4510329l3410329l2310329l1210329l0110329");
        due("19 all six", x.come(9), 63);
        x.fall(0);
        due("19 all but the last", x.come(9), 31);
        x.fall(4);
        due("19 the entrance", x.come(1), 1);
    }

    // ---- promise 20

    private static void mustOfTheEntranceIs0() {
        due("20 one station", new CaveLegs().must(0), 0);
        CaveLegs x = Check.caveOf("C2" + LEG);
        due("20 the entrance", x.must(0), 0);
        due("20 the other", x.must(1), 1);
        x.fall(0);
        due("20 the entrance still", x.must(0), 0);
    }

    private static void mustIs0IfThereIsNoWay() {
        due("20 no legs", Check.caveOf("C2").must(1), 0);
        CaveLegs x = Check.caveOf("C4l0110321l1210321l2310321");
        due("20 a chain", x.must(3), 7);
        x.fall(1);
        due("20 a gap", x.must(3), 0);
        due("20 a gap before it", x.must(2), 0);
        due("20 behind no gap", x.must(1), 1);
    }

    private static void mustNamesEachLegThatIsNeededAlone() {
        CaveLegs pair = Check.caveOf("C2" + LEG + LEG);
        due("20 one of two", pair.must(1), 0);
        pair.fall(1);
        due("20 the open one", pair.must(1), 1);
        pair.fall(0);
        pair.fall(1);
        due("20 the other one", pair.must(1), 2);
        CaveLegs x = Check.caveOf("C6l1210321l1210321l2310321l3410321l2410321l4510321l5410321l0110321");
        due("20 station 1", x.must(1), 128);
        due("20 station 2", x.must(2), 128);
        due("20 station 3", x.must(3), 128);
        due("20 station 5", x.must(5), 128);
        x.fall(0);
        due("20 station 2, leg 0 collapsed", x.must(2), 130);
        x.fall(5);
        due("20 station 5, leg 5 collapsed", x.must(5), 194);
        CaveLegs narrow = Check.caveOf("C3l0110321l0210329l2110329");
        due("20 a narrow way is a way", narrow.must(1), 0);
    }

    private static void mustRefuses() {
        Refused.noSuchStation("20 must", (x, w, v) -> x.must(v));
    }

    // ---- promise 21

    private static void judge(String name, CaveLegs x, int n, long row, int want) {
        due("21 " + name + ", judge(" + n + ", " + row + ")", x.judge(n, row), want);
    }

    private static void item(CaveLegs x, int item, boolean holds) {
        judge("one item", x, 1, item, holds ? CaveLegs.NONE : 0);
    }

    private static void judgeTakesOneToFourItems() {
        CaveLegs x = Check.caveOf(WIDTHS);
        judge("one", x, 1, 5010, CaveLegs.NONE);
        judge("two", x, 2, 5010_5010L, CaveLegs.NONE);
        judge("three", x, 3, 5010_5010_5010L, CaveLegs.NONE);
        judge("four", x, 4, 5010_5010_5010_5010L, CaveLegs.NONE);
        Refused.beyondEverywhere("21 judge, n", 1, 4, CaveLegs.OUTSIDE, (y, w, v) -> y.judge(v, 4000));
        Refused.beyondEverywhere("21 judge of 0, n", 1, 4, CaveLegs.OUTSIDE, (y, w, v) -> y.judge(v, 0));
    }

    private static void judgeTakesNoNegativeRow() {
        judge("0", new CaveLegs(), 1, 0, 0);
        long[] rows = {-1, -4000, -9999, -10000, -1000_0000_0000_0000L, Long.MIN_VALUE, Long.MIN_VALUE + 1};
        for (int n = 1; n <= 4; n++) {
            int items = n;
            for (long row : rows) {
                Refused.everywhere("21 judge of " + row, CaveLegs.OUTSIDE, (x, w) -> x.judge(items, row));
            }
        }
    }

    private static void judgeTakesAtMostFourDigitsAnItem() {
        long beyond = 1;
        for (int n = 1; n <= 4; n++) {
            beyond *= 10000;
            long row = beyond;
            int items = n;
            judge("all digits 9", new CaveLegs(), n, row - 1, 0);
            judge("the least of as many digits", Check.caveOf("C2" + LEG), n, row / 10, n == 1 ? CaveLegs.NONE : 1);
            Refused.everywhere("21 a digit too many", CaveLegs.OUTSIDE, (x, w) -> x.judge(items, row));
            Refused.everywhere("21 a 9 too many", CaveLegs.OUTSIDE, (x, w) -> x.judge(items, row * 10 - 1));
            Refused.everywhere("21 as many digits as there are", CaveLegs.OUTSIDE, (x, w) -> x.judge(items, Long.MAX_VALUE));
            // cut to 32 bits, this is 4000
            Refused.check("21 judge of a long", CaveLegs.OUTSIDE, (x, w) -> x.judge(1, (1L << 32) * items + 4000), World.values());
        }
    }

    private static void judgeAnswersNoneOnlyIfNoErrorApplies() {
        CaveLegs x = Check.caveOf(WIDTHS);
        judge("true", x, 1, 4000, CaveLegs.NONE);
        judge("true, but n is 0", x, 0, 4000, CaveLegs.OUTSIDE);
        judge("true, but n is 5", x, 5, 4000_4000_4000_4000L, CaveLegs.OUTSIDE);
        judge("true, but five digits", x, 1, 44000, CaveLegs.OUTSIDE);
        judge("false, and five digits", x, 1, 89999, CaveLegs.OUTSIDE);
    }

    private static void judgeAnswersTheFirstThatFails() {
        CaveLegs x = Check.caveOf(WIDTHS);
        judge("the first", x, 4, 8000_4000_4000_4000L, 0);
        judge("the second", x, 4, 4000_8000_4000_4000L, 1);
        judge("the third", x, 4, 4000_4000_8000_4000L, 2);
        judge("the fourth", x, 4, 4000_4000_4000_8000L, 3);
        judge("two of them", x, 4, 4000_8000_4000_8000L, 1);
        judge("all", x, 4, 8000_8000_8000_8000L, 0);
        judge("zeros are digits, too", x, 2, 4000, 0);
        judge("zeros in the middle", x, 3, 4000_0000_4000L, 1);
        judge("zeros in the end", x, 3, 4000_4000_0000L, 2);
    }

    private static void judgeKnowsTheItems1To7() {
        CaveLegs x = Check.caveOf("C2" + LEG + LEG);
        item(x, 0, false);
        item(x, 10, false);
        item(x, 1, false);
        item(x, 1000, true);
        item(x, 2000, true);
        item(x, 3001, true);
        item(x, 4000, true);
        item(x, 5010, true);
        item(x, 6000, true);
        item(x, 7011, true);
        for (int rest : new int[] {0, 1, 10, 11, 100, 110, 111}) {
            item(x, rest, false);
            item(x, 8000 + rest, false);
            item(x, 9000 + rest, false);
        }
    }

    /** Items 1 and 2 alike: leg a exists, b and v are 0. */
    private static void aloneWithALeg(int h) {
        CaveLegs x = Check.caveOf(WIDTHS);
        for (int a = 0; a <= 9; a++) {
            item(x, h * 1000 + a * 100, a < 4);
        }
        for (int rest = 1; rest <= 99; rest++) {
            item(x, h * 1000 + rest, false);
            item(x, h * 1000 + 300 + rest, false);
        }
        item(Check.caveOf("C2"), h * 1000, false);
        item(Check.caveOf("C2" + LEG.repeat(8)), h * 1000 + 700, true);
        item(Check.caveOf("C2" + LEG.repeat(8)), h * 1000 + 800, false);
    }

    private static void judgeTurnsALeg() {
        aloneWithALeg(1);
        CaveLegs x = Check.caveOf(WIDTHS);
        judge("collapsed", x, 2, 1300_4341L, 1);
        judge("collapsed and opened", x, 3, 1300_1300_4349L, CaveLegs.NONE);
        x.fall(3);
        judge("opened", x, 2, 1300_4349L, CaveLegs.NONE);
        judge("opened and collapsed", x, 3, 1300_1300_4341L, 2);
    }

    private static void judgeRemovesALeg() {
        aloneWithALeg(2);
        CaveLegs x = Check.caveOf(WIDTHS);
        judge("leg 3 is 2 then", x, 3, 2000_1200_4341L, 2);
        judge("no leg 3 then", x, 2, 2000_1300L, 1);
        judge("leg 2 is the last then", x, 2, 2300_2200L, CaveLegs.NONE);
        judge("no leg is left", Check.caveOf("C2" + LEG), 2, 2000_2000L, 1);
        judge("eight, and the last four of them", Check.caveOf("C2" + LEG.repeat(8)), 4, 2700_2600_2500_2400L, CaveLegs.NONE);
        judge("eight, and the last one twice", Check.caveOf("C2" + LEG.repeat(8)), 2, 2700_2700L, 1);
    }

    private static void judgeSetsALength() {
        CaveLegs x = Check.caveOf(WIDTHS);
        for (int length = 0; length <= 99; length++) {
            item(x, 3000 + length, length > 0);
            item(x, 3300 + length, length > 0);
            item(x, 3400 + length, false);
        }
        // two legs east: the second closes if it is as long as the first
        CaveLegs twin = Check.caveOf("C2l0101321l0199321");
        judge("1 and 99", twin, 1, 6100, 0);
        judge("1 and 1", twin, 2, 3101_6100L, CaveLegs.NONE);
        judge("1 and 2", twin, 2, 3102_6100L, 1);
        judge("99 and 99", twin, 2, 3099_6100L, CaveLegs.NONE);
        judge("98 and 99", twin, 2, 3098_6100L, 1);
        judge("10 and 10", twin, 3, 3010_3110_6100L, CaveLegs.NONE);
        judge("10 and 1", twin, 3, 3010_3101_6100L, 2);
    }

    private static void judgeOfAWidth() {
        CaveLegs x = Check.caveOf(WIDTHS);
        for (int v = 0; v <= 9; v++) {
            item(x, 4010 + v, v <= 5);
            item(x, 4020 + v, v <= 3);
            item(x, 4200 + v, v <= 3);
            item(x, 4340 + v, true);
            item(x, 4030 + v, v == 0);
            item(x, 4440 + v, true);
            item(x, 4500 + v, false);
            item(x, 4050 + v, false);
            item(x, 4550 + v, false);
            item(x, 4990 + v, false);
        }
        x.fall(0);
        item(x, 4012, true);
        item(x, 4013, false);
    }

    private static void judgeOfLoops() {
        for (int legs = 0; legs <= 8; legs++) {
            CaveLegs x = Check.caveOf("C2" + LEG.repeat(legs));
            int loops = Math.max(0, legs - 1);
            for (int told = 0; told <= 99; told++) {
                item(x, 5000 + 10 * told, told == loops);
            }
            for (int v = 1; v <= 9; v++) {
                item(x, 5000 + 10 * loops + v, false);
            }
        }
        CaveLegs fallen = Check.caveOf("C2" + LEG + LEG);
        fallen.fall(1);
        item(fallen, 5010, true);
        judge("of the copy", fallen, 2, 2000_5000L, CaveLegs.NONE);
    }

    private static void judgeOfAMisclosure() {
        CaveLegs x = Check.caveOf("C4l0110321l0111321l2310321");
        item(x, 6000, true);
        item(x, 6100, false);
        item(x, 6200, false);
        item(x, 6300, false);
        for (int rest = 1; rest <= 99; rest++) {
            item(x, 6000 + rest, false);
        }
        // a difference in just one component, then in none
        item(Check.caveOf("C2l0110321l0111321"), 6100, false);
        item(Check.caveOf("C2l0110021l0111021"), 6100, false);
        item(Check.caveOf("C2l0102331l0102311"), 6100, false);
        item(Check.caveOf("C2l0110321l0110321"), 6100, true);
        item(Check.caveOf("C2l0110321l1010921"), 6100, true);
        CaveLegs fallen = Check.caveOf("C2l0110321l0110321");
        fallen.fall(0);
        fallen.fall(1);
        item(fallen, 6100, true);
        item(Check.caveOf("C3l1210321"), 6000, false);
        // the vector of a leg of 1 straight down is 0, but if it is not connected, it has no misclosure
        item(Check.caveOf("C3l1201301"), 6000, false);
        item(Check.caveOf("C3l1201301l0101301"), 6000, true);
        item(Check.caveOf("C2" + LEG.repeat(8)), 6700, true);
        item(Check.caveOf("C2" + LEG.repeat(8)), 6800, false);
    }

    private static void judgeOfAGirth() {
        for (int b = 0; b <= 9; b++) {
            CaveLegs x = Check.caveOf(WIDTHS);
            for (int v = 0; v <= 9; v++) {
                boolean may = b > 0 && v <= 1;
                item(x, 7000 + 10 * b + v, may && v == 1);
                item(x, 7100 + 10 * b + v, may && (b <= 5) == (v == 1));
                item(x, 7200 + 10 * b + v, may && (b <= 3) == (v == 1));
                item(x, 7400 + 10 * b + v, may && v == 0);
                item(x, 7500 + 10 * b + v, false);
                item(x, 7900 + 10 * b + v, false);
            }
        }
    }

    private static void judgeLetsLaterItemsSeeTheCopy() {
        CaveLegs x = Check.caveOf(WIDTHS);
        judge("no way to 1 without 0 and 1", x, 3, 1000_1100_7110L, CaveLegs.NONE);
        judge("a way to 1 without 0", x, 2, 1000_7121L, CaveLegs.NONE);
        judge("nothing is apart any more", x, 3, 2300_5010_6200L, 2);
        judge("a length, then the misclosure", x, 2, 3220_6200L, CaveLegs.NONE);
        judge("the statement comes first", x, 2, 6200_3220L, 0);
    }

    private static void judgeChangesNothing() {
        for (World w : new World[] {World.READ, World.RICH, World.FULL}) {
            Refused.check("21 carried out", CaveLegs.NONE, (x, u) -> x.judge(4, 1000_3077_2100_2000L), w);
            Refused.check("21 the last fails", 3, (x, u) -> x.judge(4, 2000_1000_3099_8000L), w);
            Refused.check("21 the second fails", 1, (x, u) -> x.judge(2, 1000_1999L), w);
            Refused.check("21 all of them fail", 0, (x, u) -> x.judge(4, 0), w);
        }
    }

    // ---- promises 22 and 23

    private static void thereAreAtMost6Observations() {
        CaveLegs x = Check.caveOf(WIDTHS);
        for (int k = 1; k <= 6; k++) {
            due("22 observation " + k, x.see(0, 1, k, 0), k);
        }
        due("22 observation 7", x.see(0, 1, 7, 0), CaveLegs.FULL);
        due("22 there are 6", x.count(5), 6);
        Refused.check("22 a seventh", CaveLegs.FULL, (y, w) -> y.see(0, 1, 0, 1), World.FULL);
        Refused.check("22 another seventh", CaveLegs.FULL, (y, w) -> y.see(5, 5, 10, 0), World.FULL);
    }

    private static void theWidthOfAnObservationIsFrom0To10() {
        CaveLegs x = Check.caveOf("C2" + LEG);
        due("22 v 0", x.see(0, 1, 0, 1), 1);
        due("22 v 10", x.see(1, 1, 10, 1), 2);
        World[] worlds = {World.NEW, World.READ, World.RICH};
        for (int k = 0; k <= 1; k++) {
            int was = k;
            Refused.beyond("22 see, v", 0, 10, CaveLegs.OUTSIDE, (y, w, v) -> y.see(0, 0, v, was), worlds);
        }
    }

    private static void anObservationWasOrWasNot() {
        CaveLegs x = Check.caveOf("C2" + LEG);
        due("22 was 0", x.see(0, 1, 1, 0), 1);
        due("22 was 1", x.see(0, 1, 0, 1), 2);
        World[] worlds = {World.NEW, World.READ, World.RICH};
        Refused.beyond("22 see, was", 0, 1, CaveLegs.OUTSIDE, (y, w, v) -> y.see(0, 0, 10, v), worlds);
    }

    private static void seeRefuses() {
        Refused.noSuchStation("22 see from", (x, w, v) -> x.see(v, 0, 0, 0));
        Refused.noSuchStation("22 see to", (x, w, v) -> x.see(0, v, 0, 1));
        Refused.noSuchStation("22 see itself", (x, w, v) -> x.see(v, v, 10, 1));
    }

    private static void seeChecksInItsOrder() {
        Refused.noSuchStation("22 unknown before v", (x, w, v) -> x.see(v, 0, 11, 0));
        Refused.noSuchStation("22 unknown before was", (x, w, v) -> x.see(0, v, 0, 2));
        Refused.check("22 from unknown before full", CaveLegs.UNKNOWN, (x, w) -> x.see(6, 0, 0, 0), World.FULL);
        Refused.check("22 to unknown before full", CaveLegs.UNKNOWN, (x, w) -> x.see(0, 6, 0, 0), World.FULL);
        Refused.check("22 v before full", CaveLegs.OUTSIDE, (x, w) -> x.see(0, 0, 11, 0), World.FULL);
        Refused.check("22 v below before full", CaveLegs.OUTSIDE, (x, w) -> x.see(0, 0, -1, 0), World.FULL);
        Refused.check("22 was before full", CaveLegs.OUTSIDE, (x, w) -> x.see(0, 0, 0, 2), World.FULL);
        Refused.check("22 was below before full", CaveLegs.OUTSIDE, (x, w) -> x.see(0, 0, 0, -1), World.FULL);
    }

    private static void unseeAnswersHowManyThereWere() {
        for (int had = 0; had <= 6; had++) {
            CaveLegs x = Check.caveOf("C2" + LEG);
            for (int k = 0; k < had; k++) {
                x.see(0, 1, 9, 1);
            }
            due("24 which before", x.which(), had == 0 ? 1 : 0);
            due("23 unsee", x.unsee(), had);
            due("23 none is left", x.count(5), 0);
            due("24 which then", x.which(), 1);
            due("23 again", x.unsee(), 0);
        }
    }

    private static void unseeMakesRoomFor6() {
        CaveLegs x = World.FULL.make();
        due("23 six", x.unsee(), 6);
        for (int k = 1; k <= 6; k++) {
            due("22 observation " + k, x.see(0, 0, 10, 1), k);
        }
        due("22 and no more", x.see(0, 0, 10, 1), CaveLegs.FULL);
        due("24 nothing of the old ones", x.which(), 127);
    }

    // ---- promise 24

    private static void whichWithoutObservations() {
        due("24 no legs", new CaveLegs().which(), 0);
        for (int legs = 0; legs <= 8; legs++) {
            due("24 all of " + legs, Check.caveOf("C2" + LEG.repeat(legs)).which(), (1 << legs) - 1);
        }
    }

    private static void whichOfOpenLegsAlone() {
        CaveLegs x = Check.caveOf("C2" + LEG.repeat(8));
        for (int leg = 0; leg < 8; leg++) {
            x.fall(leg);
            due("24 without the collapsed ones", x.which(), 255 & ~((2 << leg) - 1));
        }
        x.see(0, 1, 0, 1);
        due("24 none is open", x.which(), 0);
        x.fall(7);
        due("24 the last open one", x.which(), 128);
    }

    private static void whichOfEachWidth() {
        // if the leg of width 9 collapses, width k is left; if the other one does, 9 is
        for (int width = 1; width <= 8; width++) {
            for (int v = 0; v <= 10; v++) {
                CaveLegs x = Check.caveOf("C2l011032" + width + "l0110329");
                x.see(1, 0, v, 1);
                int set = v == width ? 2 : v == 9 ? 1 : 0;
                due("24 it is " + v, x.which(), set);
                x.unsee();
                x.see(0, 1, v, 0);
                due("24 it is not " + v, x.which(), 3 & ~set);
            }
        }
        CaveLegs one = Check.caveOf("C2" + LEG);
        one.see(0, 1, 0, 1);
        due("24 no way is left", one.which(), 1);
        one.see(1, 1, 10, 1);
        due("24 to itself it is 10", one.which(), 1);
        one.see(1, 1, 10, 0);
        due("24 it is not", one.which(), 0);
    }

    private static void whichWantsAllObservations() {
        for (int wrong = 0; wrong < 6; wrong++) {
            CaveLegs x = Check.caveOf("C3l0110325l1210323l0210322");
            for (int k = 0; k < 6; k++) {
                // leg 0 alone leaves another width than 5 between 0 and 1
                due("22 see", k == wrong ? x.see(0, 1, 5, 0) : x.see(0, 0, 10, 1), k + 1);
            }
            due("24 observation " + wrong + " counts", x.which(), 1);
        }
    }

    private static void whichIgnoresStationsThatDoNotExistAnyMore() {
        for (int side = 0; side < 3; side++) {
            CaveLegs x = Check.caveOf("C6l0110321l0510321");
            // false whichever leg collapses
            due("22 see", side == 0 ? x.see(5, 0, 9, 1) : side == 1 ? x.see(0, 5, 9, 1) : x.see(5, 5, 10, 0), 1);
            due("24 station 5 is there", x.which(), 0);
            for (int n = 2; n <= 6; n++) {
                x.wipe();
                Check.write(x, "C" + n + LEG);
                x.cave();
                due("24 with " + n + " stations", x.which(), n == 6 ? 0 : 1);
                due("24 it is not removed", x.count(5), 1);
            }
        }
        CaveLegs both = Check.caveOf("C3" + LEG);
        both.see(1, 2, 9, 1);
        both.see(0, 1, 1, 1);
        due("24 the one that is left counts", both.which(), 0);
        both.wipe();
        Check.write(both, "C2" + LEG + LEG);
        both.cave();
        due("24 it counts for two legs", both.which(), 3);
        both.fall(0);
        due("24 and for one", both.which(), 0);
    }
}
