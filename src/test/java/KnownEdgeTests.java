/** Promises 12 to 17 at their edges: one test for each sentence that names one. */
public final class KnownEdgeTests extends Edges {
    private static final int[] NO_PARTS = {LOW, -1, 2, HIGH};
    private static final int[] NO_WHATS_OF_BEST = {LOW, -1, 2, 9, 19, HIGH};
    private static final int[] WHATS_OF_BEST = {0, 1, 10, 11, 12, 13, 14, 15, 16, 17, 18};
    private static final String EVERY_DAY = "011,021,031,041,051,061,071,081";
    private static final String EVERY_DAY_BY_2 = "012,022,032,042,052,062,072,082";

    private static void dueWhose(String when, SurpriseSaturday x, int guest, long above, long below) {
        dueParts("whose(" + guest + ") " + when, x.whose(guest, 0), x.whose(guest, 1), above, below);
    }

    private static void dueBest(String when, SurpriseSaturday x, long above, long below) {
        dueParts("best() " + when, x.best(0), x.best(1), above, below);
    }

    // ---- 12 known

    static void promise12_partsAre0And1() {
        SurpriseSaturday x = tell(read(some(), "013"), "1");
        dueKnown("of one meeting", x, 3, 10);
        for (int part : NO_PARTS) {
            due("known(" + part + ")", x.known(part), OUTSIDE);
        }
    }

    static void promise12_noMeetingsAreNoWays() {
        dueKnown("of a new object", new SurpriseSaturday(), 0, 1);
        dueKnown("without a list", tell(some(), "11111"), 0, 1);
    }

    static void promise12_nobodyWhoKnowsIsNoWay() {
        dueKnown("while nobody knows", read(some(), times("019", 15)), 0, 1);
        dueKnown("while another knows", tell(read(some(), times("019", 15)), "01111"), 0, 1);
    }

    static void promise12_halfOfOneTenthIsNoWay() {
        dueKnown("by a quiet one and a host", tell(read(some(), "311,411"), "00011"), 0, 1);
        dueKnown("by a quiet one of two tenths", tell(read(some(), "312,411"), "00011"), 1, 10);
    }

    static void promise12_inLowestTerms() {
        long[][] parts = {{1, 10}, {1, 5}, {3, 10}, {2, 5}, {1, 2}, {3, 5}, {7, 10}, {4, 5}, {9, 10}};
        for (int tenths = 1; tenths <= 9; tenths++) {
            SurpriseSaturday x = tell(read(some(), "01" + tenths), "1");
            dueKnown("by " + tenths, x, parts[tenths - 1][0], parts[tenths - 1][1]);
        }
    }

    static void promise12_fifteenMeetings() {
        dueKnown("by 9", tell(read(some(), times("019", 15)), "1"), 999999999999999L, 1000000000000000L);
        dueKnown("by 1", tell(read(some(), times("011", 15)), "1"), 794108867905351L, 1000000000000000L);
        dueKnown("by 5", tell(read(some(), times("015", 15)), "1"), 32767, 32768);
        dueKnown("by 8", tell(read(some(), times("018", 15)), "1"), 30517578124L, 30517578125L);
    }

    static void promise12_fromTheDayOn() {
        SurpriseSaturday x = read(some(), "035,085");
        x.tell(0, 3);
        dueKnown("told on the day", x, 3, 4);
        x.tell(0, 4);
        dueKnown("told on the next", x, 1, 2);
        x.tell(0, 8);
        dueKnown("told on the last", x, 1, 2);
        x.tell(0, 0);
        x.tell(1, 8);
        x.sees(1, 0, 8, true);
        dueKnown("heard on the last", x, 0, 1);
    }

    static void promise12_aRefusedOneChangesNothing() {
        refused("known(2)", Edges::full, x -> x.known(2), OUTSIDE);
        refused("known(-1)", Edges::middling, x -> x.known(-1), OUTSIDE);
        changesNothing("known(0)", Edges::full, x -> x.known(0));
    }

    // ---- 13 whose

    static void promise13_guestsThatAreThere() {
        SurpriseSaturday x = tell(read(some(), "013"), "1");
        for (int guest : new int[] {LOW, -1, 5, 9, HIGH}) {
            due("whose(" + guest + ", 0)", x.whose(guest, 0), UNKNOWN);
        }
        dueWhose("of the last guest", x, 4, 0, 1);
    }

    static void promise13_partsAre0And1() {
        SurpriseSaturday x = tell(read(some(), "013"), "1");
        for (int part : NO_PARTS) {
            due("whose(0, " + part + ")", x.whose(0, part), OUTSIDE);
        }
    }

    static void promise13_unknownAheadOfOutside() {
        due("whose(5, 2)", some().whose(5, 2), UNKNOWN);
        due("whose(-1, -1)", some().whose(-1, -1), UNKNOWN);
    }

    static void promise13_unknownAheadOfNone() {
        due("whose(5, 0)", some().whose(5, 0), UNKNOWN);
    }

    static void promise13_outsideAheadOfNone() {
        due("whose(0, 2)", some().whose(0, 2), OUTSIDE);
        due("whose(0, -1)", read(some(), "013").whose(0, -1), OUTSIDE);
    }

    static void promise13_noneBothIfSheCantKnow() {
        dueWhose("without a list", tell(some(), "11111"), 0, NONE, NONE);
        dueWhose("while nobody knows", read(some(), "019"), 0, NONE, NONE);
        dueWhose("by half of one tenth", tell(read(some(), "311"), "00010"), 3, NONE, NONE);
        dueWhose("of another", tell(read(some(), "311"), "00010"), 0, NONE, NONE);
    }

    static void promise13_noneOfItIs0Of1() {
        SurpriseSaturday x = tell(read(some(), "015,215,311"), "10010");
        dueWhose("of who knows and slips", x, 0, 1, 1);
        dueWhose("of who has no meeting", x, 1, 0, 1);
        dueWhose("of who does not know", x, 2, 0, 1);
        dueWhose("of who knows and can't slip", x, 3, 0, 1);
    }

    static void promise13_aloneItIsAllOfIt() {
        for (int tenths = 1; tenths <= 9; tenths++) {
            dueWhose("by " + tenths, tell(read(some(), "01" + tenths), "1"), 0, 1, 1);
        }
    }

    static void promise13_theFirstSlipByDay() {
        SurpriseSaturday x = tell(read(some(), "125,015"), "11");
        dueWhose("on the first day", x, 0, 2, 3);
        dueWhose("on the second day", x, 1, 1, 3);
    }

    static void promise13_theFirstSlipOfOneDayByTheList() {
        SurpriseSaturday x = tell(read(some(), "115,015"), "11");
        dueWhose("second in the list", x, 0, 1, 3);
        dueWhose("first in the list", x, 1, 2, 3);
    }

    static void promise13_allMeetingsOfOneGuest() {
        SurpriseSaturday x = tell(read(some(), "015,115,025"), "11");
        dueWhose("at two meetings", x, 0, 5, 7);
        dueWhose("at one between", x, 1, 2, 7);
    }

    static void promise13_fifteenMeetings() {
        SurpriseSaturday x = tell(read(some(), times("019", 14) + ",119"), "11");
        dueWhose("of fourteen", x, 0, 111111111111110L, 111111111111111L);
        dueWhose("of the last", x, 1, 1, 111111111111111L);
    }

    static void promise13_aRefusedOneChangesNothing() {
        refused("whose(9, 0)", Edges::full, x -> x.whose(9, 0), UNKNOWN);
        refused("whose(0, 2)", Edges::full, x -> x.whose(0, 2), OUTSIDE);
        changesNothing("whose(8, 1)", Edges::full, x -> x.whose(8, 1));
    }

    // ---- 14 right

    static void promise14_noneNeededIsRight() {
        due("nobody", new SurpriseSaturday().right(), 1);
        due("none such", party("G A Q").right(), 1);
    }

    static void promise14_eachByItsDayAndNoLater() {
        for (String kind : new String[] {"N", "H"}) {
            for (int by = 1; by <= 8; by++) {
                for (int told = 0; told <= 8; told++) {
                    SurpriseSaturday x = party(kind + by);
                    x.tell(0, told);
                    due(kind + by + " told on " + told, x.right(), told != 0 && told <= by ? 1 : 0);
                }
            }
        }
    }

    static void promise14_whoHearsOnTheDayAheadIsInTime() {
        for (String kind : new String[] {"N5", "H5"}) {
            SurpriseSaturday x = party("A " + kind);
            x.tell(0, 1);
            x.sees(0, 1, 5, true);
            due("heard on its day", x.right(), 0);
            x.sees(0, 1, 4, true);
            due("heard on the day ahead", x.right(), 1);
        }
    }

    static void promise14_fromSaturdayOnIsTooLate() {
        SurpriseSaturday x = party("A N8");
        x.tell(0, 8);
        x.sees(0, 1, 8, true);
        due("heard on 8", x.right(), 0);
        x.tell(1, 8);
        due("told on 8", x.right(), 1);
    }

    static void promise14_eachOfThem() {
        SurpriseSaturday x = tell(party("N1 N2 N3 N4 H5 H6 H7 H8 N8"), "123456788");
        due("nine in time", x.right(), 1);
        for (int guest = 0; guest < 9; guest++) {
            int was = x.tell(guest, 0);
            due("without " + guest, x.right(), 0);
            x.tell(guest, was);
        }
        due("nine in time again", x.right(), 1);
    }

    static void promise14_theOthersNeedNotKnow() {
        SurpriseSaturday x = tell(some(), "00507");
        due("needed ones alone", x.right(), 1);
    }

    // ---- 15 best

    static void promise15_whatIs0And1And10To18() {
        for (int what : NO_WHATS_OF_BEST) {
            due("best(" + what + ")", some().best(what), OUTSIDE);
        }
        for (int what = 2; what <= 9; what++) {
            due("best(" + what + ")", some().best(what), OUTSIDE);
        }
        int[] answers = {0, 1, 0, 0, 1, 0, 1, NONE, NONE, NONE, NONE};
        for (int i = 0; i < WHATS_OF_BEST.length; i++) {
            due("best(" + WHATS_OF_BEST[i] + ")", some().best(WHATS_OF_BEST[i]), answers[i]);
        }
    }

    static void promise15_noneIfThereIsNoSuchGuest() {
        SurpriseSaturday x = new SurpriseSaturday();
        for (int guests = 0; guests <= 3; guests++) {
            due("best() of the one behind " + guests, x.best(10 + guests), NONE);
            due("best(18) of " + guests, x.best(18), NONE);
            x.guest(2, 8);
            due("best() of the last", x.best(10 + guests), 1);
        }
        due("best(18) of nine", nine().best(18), 0);
    }

    static void promise15_noneCountsAsDone() {
        SurpriseSaturday x = party("N3");
        for (int times = 1; times <= 40; times++) {
            due("best(18)", x.best(18), NONE);
            due("count(7)", x.count(7), times);
        }
        due("best(18) then", x.best(18), STATE);
        due("best(10) then", x.best(10), STATE);
        due("count(7) then", x.count(7), 40);
    }

    static void promise15_notToldIs0() {
        SurpriseSaturday x = tell(some(), "12345");
        due("a guest", x.best(10), 0);
        due("an aunt", x.best(11), 0);
        due("a quiet one", x.best(13), 0);
    }

    static void promise15_fourNeededAtMost() {
        for (String four : new String[] {"N1 N2 N3 N4", "H1 H2 H3 H4", "N1 H2 N3 H4", "G N1 A H2 Q N3 G H4 A"}) {
            due("best(0) of " + four, party(four).best(0), 0);
        }
        for (String five : new String[] {"N1 N2 N3 N4 N5", "H1 H2 H3 H4 H5", "N1 H2 N3 H4 N5", "G N1 A H2 Q N3 H4 G H5"}) {
            for (int what : WHATS_OF_BEST) {
                due("best(" + what + ") of " + five, party(five).best(what), STATE);
            }
        }
    }

    static void promise15_theFifthNeededIsOneTooMany() {
        SurpriseSaturday x = party("N1 N2 N3 N4");
        due("four", x.best(13), 1);
        x.guest(0, 0);
        due("four and a guest", x.best(13), 1);
        x.guest(4, 8);
        due("four and a host", x.best(13), STATE);
        due("count(7)", x.count(7), 2);
    }

    static void promise15_fortyTimesAtMost() {
        SurpriseSaturday x = spent(some(), 39);
        due("the fortieth", x.best(12), 1);
        due("count(7)", x.count(7), 40);
        for (int what : WHATS_OF_BEST) {
            due("best(" + what + ") behind it", x.best(what), STATE);
        }
        due("count(7) still", x.count(7), 40);
    }

    static void promise15_outsideAheadOfState() {
        for (int what : NO_WHATS_OF_BEST) {
            due("best(" + what + ") of five", party("N1 N2 N3 N4 N5").best(what), OUTSIDE);
            due("best(" + what + ") behind forty", spent(some(), 40).best(what), OUTSIDE);
        }
    }

    static void promise15_stateAheadOfNone() {
        due("best(15) of five", party("N1 N2 N3 N4 N5").best(15), STATE);
        due("best(15) behind forty", spent(some(), 40).best(15), STATE);
    }

    static void promise15_stateForBothAtOnce() {
        SurpriseSaturday x = spent(party("N1 N2 N3 N4"), 40);
        x.guest(2, 1);
        due("best(0)", x.best(0), STATE);
    }

    static void promise15_whatIsRefusedIsNotDone() {
        SurpriseSaturday x = some();
        for (int what : NO_WHATS_OF_BEST) {
            x.best(what);
        }
        due("count(7)", x.count(7), 0);
        SurpriseSaturday five = party("N1 N2 N3 N4 N5");
        five.best(0);
        due("count(7) of five", five.count(7), 0);
    }

    static void promise15_aDayFrom1ToItsBy() {
        for (int by = 1; by <= 8; by++) {
            due("later is better, N" + by, read(party("N" + by), EVERY_DAY).best(10), by);
            due("all alike, N" + by, party("N" + by).best(10), 1);
            due("later is better, H" + by, read(party("H" + by), EVERY_DAY_BY_2).best(10), by);
        }
        SurpriseSaturday last = read(party("N8"), "089");
        dueBest("who must know slips on the last day", last, 9, 10);
        due("its day", last.best(10), 1);
    }

    static void promise15_ofLikeOnesTheFirst() {
        int[] days = {1, 1, 1, 4, 4, 4, 7, 7};
        for (int by = 1; by <= 8; by++) {
            due("N" + by, read(party("N" + by), "035,065").best(10), days[by - 1]);
        }
    }

    static void promise15_byTheLeastGuestThenTheNext() {
        SurpriseSaturday x = read(party("N4 G H6 N8 N1"), "025,234,259,369,389");
        int[] days = {3, 0, 6, 7, 1};
        for (int guest = 0; guest < 5; guest++) {
            due("best(" + (10 + guest) + ")", x.best(10 + guest), days[guest]);
        }
        dueBest("of all four", x, 9, 10);
    }

    static void promise15_aHostSlipsByHalf() {
        SurpriseSaturday x = read(party("H8"), "011,022,033,081");
        due("best(10)", x.best(10), 4);
        dueBest("by no tenths", x, 0, 1);
        SurpriseSaturday soon = read(party("H2"), "011,022,033,081");
        due("best(10) by 2", soon.best(10), 1);
        dueBest("by one and one tenth", soon, 19, 100);
    }

    static void promise15_nobodyElseIsTold() {
        SurpriseSaturday x = tell(read(some(), "018,119,319"), "11010");
        x.sees(1, 2, 1, true);
        dueBest("whatever is told now", x, 0, 1);
        SurpriseSaturday needed = read(party("A N8"), "185");
        needed.tell(0, 1);
        needed.sees(0, 1, 1, true);
        dueBest("nobody hears of an aunt", needed, 1, 2);
    }

    static void promise15_noneNeededIsNoWay() {
        SurpriseSaturday x = tell(read(party("G A Q"), "019,119,219"), "111");
        dueBest("of none", x, 0, 1);
        due("best(10)", x.best(10), 0);
        due("best(12)", x.best(12), 0);
    }

    static void promise15_fifteenMeetings() {
        SurpriseSaturday x = read(party("N8"), times("089", 15));
        dueBest("by 9", x, 999999999999999L, 1000000000000000L);
        due("its day", x.best(10), 1);
        SurpriseSaturday free = read(party("N8"), times("079", 15));
        dueBest("told behind them", free, 0, 1);
        due("its day", free.best(10), 8);
    }

    static void promise15_itTellsNobody() {
        SurpriseSaturday x = read(some(), EVERY_DAY);
        x.tell(0, 2);
        long above = x.known(0);
        for (int what : WHATS_OF_BEST) {
            x.best(what);
        }
        due("known(0)", x.known(0), above);
        for (int guest = 0; guest < 5; guest++) {
            due("about(" + guest + ", 2)", x.about(guest, 2), guest == 0 ? 2 : 0);
        }
        due("count(4)", x.count(4), 1);
        due("right()", x.right(), 0);
    }

    static void promise15_aRefusedOneChangesNothing() {
        refused("best(2)", Edges::full, x -> x.best(2), OUTSIDE);
        refused("best(19)", Edges::middling, x -> x.best(19), OUTSIDE);
        refused("best(0) of five", () -> party("N1 N2 N3 N4 N5"), x -> x.best(0), STATE);
        refused("best(0) behind forty", () -> spent(some(), 40), x -> x.best(0), STATE);
    }

    // ---- 16 hole

    static void promise16_noneIfNobodyIsTold() {
        due("nobody", new SurpriseSaturday().hole(), NONE);
        due("none told", read(some(), "019").hole(), NONE);
    }

    static void promise16_noneIfThereIsNoList() {
        due("without a list", tell(some(), "11111").hole(), NONE);
    }

    static void promise16_noneIfItIsNotLess() {
        due("told behind the meeting", tell(read(some(), "019"), "2").hole(), NONE);
        due("half of one tenth", tell(read(some(), "311"), "00010").hole(), NONE);
        due("who has no meeting", tell(read(some(), "019"), "01111").hole(), NONE);
    }

    static void promise16_noneIfTheyKnowAnyway() {
        SurpriseSaturday x = read(some(), "045");
        tell(x, "41");
        x.sees(1, 0, 1, true);
        due("heard from the aunt, and told", x.hole(), NONE);
        x.sees(1, 0, 1, false);
        due("told alone", x.hole(), 0);
    }

    static void promise16_lessIfTheyHearLater() {
        SurpriseSaturday x = tell(read(some(), "015,055"), "13");
        x.sees(1, 0, 3, true);
        due("told on 1, heard on 3", x.hole(), 0);
    }

    static void promise16_theLeastOfAll() {
        SurpriseSaturday x = tell(read(nine(), "011,212,813,412"), "101010001");
        due("the worst is the last", x.hole(), 8);
        x.tell(8, 2);
        due("the worst is the second", x.hole(), 2);
        x.tell(2, 0);
        due("of one tenth each the least", x.hole(), 0);
    }

    static void promise16_ofLikeOnesTheLeast() {
        SurpriseSaturday x = tell(read(nine(), "814,314,418"), "000110001");
        due("3, 4 and 8 alike", x.hole(), 3);
        x.tell(3, 0);
        due("4 and 8 alike", x.hole(), 4);
        x.tell(4, 0);
        due("8 alone", x.hole(), 8);
    }

    static void promise16_onlyOfThoseWhoAreTold() {
        SurpriseSaturday x = read(some(), "029");
        x.tell(1, 1);
        x.sees(0, 1, 1, true);
        due("the aunt, not whom she tells", x.hole(), 1);
    }

    static void promise16_theOthersAsTheyAre() {
        SurpriseSaturday x = tell(read(party("A A G G"), "225,325"), "11");
        x.sees(0, 2, 1, true);
        x.sees(1, 2, 1, true);
        x.sees(1, 3, 1, true);
        due("the second aunt tells one whom the first tells too", x.hole(), 1);
        x.sees(1, 3, 1, false);
        due("each would tell it alone", x.hole(), NONE);
    }

    static void promise16_itChangesNothing() {
        changesNothing("hole()", Edges::full, x -> x.hole());
        changesNothing("hole()", Edges::middling, x -> x.hole());
    }

    // ---- 17 latest

    static void promise17_guestsThatAreThere() {
        for (int guest : new int[] {LOW, -1, 5, 9, HIGH}) {
            due("latest(" + guest + ")", some().latest(guest), UNKNOWN);
        }
        due("latest(4)", some().latest(4), NONE);
        due("latest(9) of nine", nine().latest(9), UNKNOWN);
        due("latest(0) of nobody", new SurpriseSaturday().latest(0), UNKNOWN);
    }

    static void promise17_guest0KnowsFromTheLastDayOn() {
        due("latest(0)", some().latest(0), 8);
        SurpriseSaturday x = tell(some(), "1");
        due("latest(0) told on 1", x.latest(0), 8);
    }

    static void promise17_theGreatestDay() {
        for (int day = 1; day <= 8; day++) {
            SurpriseSaturday x = some();
            x.sees(0, 1, day, true);
            due("seen on " + day, x.latest(1), day);
            x.sees(1, 0, 1, true);
            due("seen on 1 too", x.latest(1), day);
        }
    }

    static void promise17_noneIfNoWordComes() {
        SurpriseSaturday x = some();
        x.sees(1, 2, 4, true);
        due("seen by another alone", x.latest(2), NONE);
        x.sees(0, 1, 4, true);
        due("heard on the same day", x.latest(2), NONE);
        x.sees(0, 1, 5, true);
        due("heard on a later day", x.latest(2), NONE);
        x.sees(0, 1, 3, true);
        due("heard on the day ahead", x.latest(2), 3);
    }

    static void promise17_eachWhoKnowsTells() {
        for (String kind : new String[] {"G", "A", "N1", "Q", "H1"}) {
            SurpriseSaturday x = party(kind + " " + kind + " G");
            x.sees(0, 1, 7, true);
            x.sees(1, 2, 8, true);
            due("through " + kind, x.latest(2), 7);
        }
    }

    static void promise17_throughAllDays() {
        SurpriseSaturday x = nine();
        for (int day = 1; day <= 8; day++) {
            x.sees(day - 1, day, day, true);
        }
        for (int guest = 1; guest <= 8; guest++) {
            due("latest(" + guest + ")", x.latest(guest), 1);
        }
        x.sees(0, 8, 8, true);
        due("latest(8) by a shorter way", x.latest(8), 8);
        due("latest(7) still", x.latest(7), 1);
    }

    static void promise17_whoIsToldDoesNotMatter() {
        SurpriseSaturday x = tell(party("G A G"), "111");
        x.sees(1, 2, 8, true);
        due("another who is told", x.latest(2), NONE);
        due("who is told itself", x.latest(1), NONE);
    }

    static void promise17_aRefusedOneChangesNothing() {
        refused("latest(9)", Edges::full, x -> x.latest(9), UNKNOWN);
        changesNothing("latest(8)", Edges::full, x -> x.latest(8));
    }

    public static void main(String[] args) {
        runAll(KnownEdgeTests.class);
    }
}
