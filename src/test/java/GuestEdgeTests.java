/** Promises 1 to 6 at their edges: one test for each sentence that names one. */
public final class GuestEdgeTests extends Edges {
    private static final int[] WITHOUT_BY = {0, 1, 3};
    private static final int[] WITH_BY = {2, 4};

    // ---- 1 a new object

    static void promise01_hasNoGuests() {
        SurpriseSaturday x = new SurpriseSaturday();
        due("count(0)", x.count(0), 0);
        due("count(4)", x.count(4), 0);
        due("about(0, 0)", x.about(0, 0), UNKNOWN);
        due("as(0, 0)", x.as(0, 0), UNKNOWN);
        due("sees(0, 1, 1)", x.sees(0, 1, 1, true), UNKNOWN);
        due("tell(0, 1)", x.tell(0, 1), UNKNOWN);
        due("whose(0, 0)", x.whose(0, 0), UNKNOWN);
        due("latest(0)", x.latest(0), UNKNOWN);
        due("best(10)", x.best(10), NONE);
    }

    static void promise01_hasAnEmptyList() {
        SurpriseSaturday x = new SurpriseSaturday();
        due("count(1)", x.count(1), 0);
        due("count(6)", x.count(6), 0);
        due("meeting(0, 0)", x.meeting(0, 0), UNKNOWN);
        dueKnown("of a new object", x, 0, 1);
        due("weeks(5, 0)", x.weeks(5, 0), NONE);
        due("weeks(5, 1)", x.weeks(5, 1), NONE);
        due("weeks(5, 2)", x.weeks(5, 2), 5);
        due("hole()", x.hole(), NONE);
    }

    static void promise01_hasNoStories() {
        SurpriseSaturday x = new SurpriseSaturday();
        due("count(2)", x.count(2), 0);
        due("clash(0, 1)", x.clash(0, 1, true), UNKNOWN);
        due("cover(0)", x.cover(0), 0);
        due("cover(1)", x.cover(1), 0);
    }

    static void promise01_hasNoSigns() {
        SurpriseSaturday x = new SurpriseSaturday();
        due("count(3)", x.count(3), 0);
        due("look(0, 0)", x.look(0, 0), UNKNOWN);
        dueParts("belief(0)", x.belief(0, 0), x.belief(0, 1), 1, 2);
        dueParts("belief(9)", x.belief(9, 0), x.belief(9, 1), 1, 2);
        due("parting()", x.parting(), NONE);
    }

    static void promise01_hasAnEmptyPageAndNoImage() {
        SurpriseSaturday x = new SurpriseSaturday();
        due("count(5)", x.count(5), 0);
        due("fault()", x.fault(), 0);
        due("list()", x.list(), STATE);
        due("blank()", x.blank(), 0);
        due("restore()", x.restore(), STATE);
        due("count(7)", x.count(7), 0);
    }

    static void promise01_takesNothingFromAnotherObject() {
        SurpriseSaturday first = full();
        long digest = first.digest();
        SurpriseSaturday second = new SurpriseSaturday();
        dueCounts("of the second", second, 0, 0, 0, 0, 0, 0, 0, 0);
        second.guest(2, 3);
        second.tell(0, 7);
        due("digest() of the first", first.digest(), digest);
    }

    // ---- 2 guest

    static void promise02_kindsAre0To4() {
        SurpriseSaturday x = new SurpriseSaturday();
        for (int kind : new int[] {LOW, -1, 5, HIGH}) {
            due("guest(" + kind + ", 0)", x.guest(kind, 0), OUTSIDE);
            due("guest(" + kind + ", 1)", x.guest(kind, 1), OUTSIDE);
        }
        for (int kind = 0; kind <= 4; kind++) {
            due("guest(" + kind + ", ..)", x.guest(kind, kind == 2 || kind == 4 ? 1 : 0), kind);
            due("about(.., 0)", x.about(kind, 0), kind);
        }
    }

    static void promise02_byOfANeededAndAHostIs1To8() {
        for (int kind : WITH_BY) {
            SurpriseSaturday x = new SurpriseSaturday();
            for (int by : new int[] {LOW, -1, 0, 9, HIGH}) {
                due("guest(" + kind + ", " + by + ")", x.guest(kind, by), OUTSIDE);
            }
            for (int by = 1; by <= 8; by++) {
                due("guest(" + kind + ", " + by + ")", x.guest(kind, by), by - 1);
                due("about(.., 1)", x.about(by - 1, 1), by);
            }
        }
    }

    static void promise02_byOfTheOthersIs0() {
        for (int kind : WITHOUT_BY) {
            SurpriseSaturday x = new SurpriseSaturday();
            for (int by : new int[] {LOW, -1, 1, 8, 9, HIGH}) {
                due("guest(" + kind + ", " + by + ")", x.guest(kind, by), OUTSIDE);
            }
            due("guest(" + kind + ", 0)", x.guest(kind, 0), 0);
            due("about(.., 1)", x.about(0, 1), 0);
        }
    }

    static void promise02_nineAtMostNumberedFrom0() {
        SurpriseSaturday x = new SurpriseSaturday();
        for (int number = 0; number < 9; number++) {
            due("guest(3, 0)", x.guest(3, 0), number);
            due("count(0)", x.count(0), number + 1);
        }
        due("the tenth", x.guest(3, 0), FULL);
        due("the tenth of another kind", x.guest(2, 8), FULL);
        due("count(0)", x.count(0), 9);
    }

    static void promise02_outsideAheadOfFull() {
        SurpriseSaturday x = nine();
        due("kind at nine", x.guest(5, 0), OUTSIDE);
        due("by at nine", x.guest(0, 1), OUTSIDE);
        due("by of a host at nine", x.guest(4, 9), OUTSIDE);
    }

    static void promise02_aRefusedOneChangesNothing() {
        refused("guest(5, 0)", Edges::middling, x -> x.guest(5, 0), OUTSIDE);
        refused("guest(1, 1)", Edges::middling, x -> x.guest(1, 1), OUTSIDE);
        refused("guest(2, 9)", Edges::middling, x -> x.guest(2, 9), OUTSIDE);
        refused("guest(1, 0) at nine", Edges::full, x -> x.guest(1, 0), FULL);
        refused("guest(2, 9) at nine", Edges::full, x -> x.guest(2, 9), OUTSIDE);
    }

    static void promise02_aNewOneIsNotToldAndSeesNobody() {
        SurpriseSaturday x = some();
        x.tell(1, 1);
        for (int day = 1; day <= 8; day++) {
            x.sees(1, 4, day, true);
        }
        due("guest(1, 0)", x.guest(1, 0), 5);
        due("about(5, 2)", x.about(5, 2), 0);
        due("about(5, 3)", x.about(5, 3), NONE);
        for (int day = 1; day <= 8; day++) {
            due("sees(5, 1, " + day + ")", x.sees(5, 1, day, false), 0);
        }
    }

    // ---- 3 about

    static void promise03_whatIs0To3() {
        SurpriseSaturday x = some();
        for (int what : new int[] {LOW, -1, 4, HIGH}) {
            due("about(4, " + what + ")", x.about(4, what), OUTSIDE);
        }
        int[] answers = {4, 7, 0, NONE};
        for (int what = 0; what <= 3; what++) {
            due("about(4, " + what + ")", x.about(4, what), answers[what]);
        }
    }

    static void promise03_guestsThatAreThere() {
        SurpriseSaturday x = some();
        for (int guest : new int[] {LOW, -1, 5, 8, 9, HIGH}) {
            due("about(" + guest + ", 0)", x.about(guest, 0), UNKNOWN);
        }
        due("about(0, 0)", x.about(0, 0), 0);
        due("about(4, 0)", x.about(4, 0), 4);
        due("about(8, 0) of nine", nine().about(8, 0), 1);
        due("about(9, 0) of nine", nine().about(9, 0), UNKNOWN);
    }

    static void promise03_unknownAheadOfOutside() {
        SurpriseSaturday x = some();
        due("about(5, 4)", x.about(5, 4), UNKNOWN);
        due("about(-1, -1)", x.about(-1, -1), UNKNOWN);
    }

    static void promise03_itKnowsFromTheDayOnWhichItIsTold() {
        SurpriseSaturday x = some();
        for (int day = 1; day <= 8; day++) {
            x.tell(0, day);
            due("about(0, 2)", x.about(0, 2), day);
            due("about(0, 3)", x.about(0, 3), day);
        }
    }

    static void promise03_notToldIs0AndNone() {
        SurpriseSaturday x = some();
        x.tell(0, 8);
        x.tell(0, 0);
        due("about(0, 2)", x.about(0, 2), 0);
        due("about(0, 3)", x.about(0, 3), NONE);
    }

    static void promise03_anAuntTellsFromHerOwnDayOn() {
        for (int told = 1; told <= 8; told++) {
            for (int seen = 1; seen <= 8; seen++) {
                SurpriseSaturday x = some();
                x.tell(1, told);
                x.sees(1, 3, seen, true);
                due("told on " + told + ", seen on " + seen, x.about(3, 3), seen < told ? NONE : seen + 1);
                due("not told herself", x.about(3, 2), 0);
            }
        }
    }

    static void promise03_nineIsFromSaturdayOn() {
        SurpriseSaturday x = some();
        x.tell(1, 8);
        x.sees(1, 0, 8, true);
        due("about(0, 3)", x.about(0, 3), 9);
        due("about(1, 3)", x.about(1, 3), 8);
        due("about(2, 3)", x.about(2, 3), NONE);
    }

    static void promise03_theyKnowIfTheyDidNot() {
        SurpriseSaturday x = some();
        x.tell(1, 3);
        x.sees(1, 0, 3, true);
        x.sees(1, 0, 6, true);
        for (int day = 0; day <= 8; day++) {
            x.tell(0, day);
            due("heard on 3, told on " + day, x.about(0, 3), day >= 1 && day < 4 ? day : 4);
        }
    }

    static void promise03_anAuntWhoHearsTellsFromTheNextDayOn() {
        SurpriseSaturday x = party("A A G G");
        x.tell(0, 4);
        x.sees(0, 1, 4, true);
        x.sees(1, 2, 4, true);
        x.sees(1, 3, 5, true);
        due("the second aunt", x.about(1, 3), 5);
        due("whom she sees on the same day", x.about(2, 3), NONE);
        due("whom she sees on the next", x.about(3, 3), 6);
    }

    static void promise03_aWordGoesThroughAllDays() {
        SurpriseSaturday x = party("A A A A A A A A A");
        for (int day = 1; day <= 8; day++) {
            x.sees(day - 1, day, day, true);
        }
        x.tell(0, 1);
        for (int guest = 0; guest <= 8; guest++) {
            due("about(" + guest + ", 3)", x.about(guest, 3), guest + 1);
        }
        x.tell(0, 2);
        due("a day later: the next", x.about(1, 3), NONE);
    }

    static void promise03_onlyAnAuntTells() {
        for (String kind : new String[] {"G", "N1", "Q", "H1"}) {
            SurpriseSaturday x = party(kind + " G A");
            x.tell(0, 1);
            for (int day = 1; day <= 8; day++) {
                x.sees(0, 1, day, true);
                x.sees(0, 2, day, true);
            }
            due("seen by " + kind, x.about(1, 3), NONE);
            due("an aunt seen by " + kind, x.about(2, 3), NONE);
        }
    }

    static void promise03_theyKnowFromTheFirstOfTwoAunts() {
        SurpriseSaturday x = party("A G A");
        x.tell(0, 1);
        x.tell(2, 1);
        x.sees(0, 1, 7, true);
        x.sees(1, 2, 5, true);
        due("about(1, 3)", x.about(1, 3), 6);
        x.sees(0, 1, 1, true);
        due("about(1, 3)", x.about(1, 3), 2);
    }

    static void promise03_aRefusedOneChangesNothing() {
        refused("about(9, 0)", Edges::full, x -> x.about(9, 0), UNKNOWN);
        refused("about(0, 4)", Edges::full, x -> x.about(0, 4), OUTSIDE);
    }

    // ---- 4 as

    static void promise04_allAreGuests() {
        for (int guest = 0; guest < 5; guest++) {
            due("as(" + guest + ", 0)", some().as(guest, 0), guest);
        }
    }

    static void promise04_aHostIsNeededToo() {
        SurpriseSaturday x = some();
        due("a host as needed", x.as(4, 2), 4);
        due("a needed one as host", x.as(2, 4), NONE);
        due("a host as quiet", x.as(4, 3), NONE);
        due("a quiet one as host", x.as(3, 4), NONE);
        due("a host as aunt", x.as(4, 1), NONE);
    }

    static void promise04_theCastFailsOfNoOther() {
        SurpriseSaturday x = some();
        for (int guest = 0; guest < 5; guest++) {
            for (int kind = 1; kind < 5; kind++) {
                boolean is = kind == guest || guest == 4 && kind == 2;
                due("as(" + guest + ", " + kind + ")", x.as(guest, kind), is ? guest : NONE);
            }
        }
        due("as(8, 1) of nine", nine().as(8, 1), 8);
    }

    static void promise04_kindsAre0To4() {
        for (int kind : new int[] {LOW, -1, 5, HIGH}) {
            due("as(0, " + kind + ")", some().as(0, kind), OUTSIDE);
            due("as(4, " + kind + ")", some().as(4, kind), OUTSIDE);
        }
    }

    static void promise04_guestsThatAreThere() {
        for (int guest : new int[] {LOW, -1, 5, HIGH}) {
            due("as(" + guest + ", 0)", some().as(guest, 0), UNKNOWN);
        }
        due("as(9, 0) of nine", nine().as(9, 0), UNKNOWN);
    }

    static void promise04_unknownAheadOfOutside() {
        due("as(5, 5)", some().as(5, 5), UNKNOWN);
        due("as(-1, -1)", some().as(-1, -1), UNKNOWN);
    }

    static void promise04_aRefusedOneChangesNothing() {
        refused("as(9, 0)", Edges::full, x -> x.as(9, 0), UNKNOWN);
        refused("as(0, 5)", Edges::full, x -> x.as(0, 5), OUTSIDE);
        changesNothing("as(3, 1)", Edges::full, x -> x.as(3, 1));
    }

    // ---- 5 sees

    static void promise05_daysAre1To8() {
        SurpriseSaturday x = some();
        for (int day : new int[] {LOW, -1, 0, 9, HIGH}) {
            due("sees(0, 1, " + day + ")", x.sees(0, 1, day, true), OUTSIDE);
        }
        for (int day = 1; day <= 8; day++) {
            due("sees(0, 1, " + day + ")", x.sees(0, 1, day, true), 0);
            due("sees(0, 1, " + day + ") again", x.sees(0, 1, day, true), 1);
        }
    }

    static void promise05_aIsThere() {
        for (int guest : new int[] {LOW, -1, 5, 9, HIGH}) {
            due("sees(" + guest + ", 0, 1)", some().sees(guest, 0, 1, true), UNKNOWN);
        }
    }

    static void promise05_bIsThere() {
        for (int guest : new int[] {LOW, -1, 5, 9, HIGH}) {
            due("sees(0, " + guest + ", 1)", some().sees(0, guest, 1, true), UNKNOWN);
        }
    }

    static void promise05_theyAreNotTheSame() {
        for (int guest = 0; guest < 5; guest++) {
            due("sees(" + guest + ", " + guest + ", 1, true)", some().sees(guest, guest, 1, true), UNKNOWN);
            due("sees(" + guest + ", " + guest + ", 1, false)", some().sees(guest, guest, 1, false), UNKNOWN);
        }
    }

    static void promise05_unknownAheadOfOutside() {
        SurpriseSaturday x = some();
        due("sees(5, 0, 0)", x.sees(5, 0, 0, true), UNKNOWN);
        due("sees(0, 5, 9)", x.sees(0, 5, 9, true), UNKNOWN);
        due("sees(2, 2, 9)", x.sees(2, 2, 9, true), UNKNOWN);
        due("sees(7, 7, 0)", x.sees(7, 7, 0, true), UNKNOWN);
    }

    static void promise05_whetherTheyDid() {
        SurpriseSaturday x = some();
        due("not at first", x.sees(0, 1, 1, false), 0);
        due("still not", x.sees(0, 1, 1, true), 0);
        due("they do", x.sees(0, 1, 1, true), 1);
        due("they still do", x.sees(0, 1, 1, false), 1);
        due("no more", x.sees(0, 1, 1, false), 0);
    }

    static void promise05_eitherWay() {
        SurpriseSaturday x = some();
        x.sees(1, 3, 2, true);
        due("sees(3, 1, 2)", x.sees(3, 1, 2, false), 1);
        due("sees(1, 3, 2) no more", x.sees(1, 3, 2, false), 0);
        x.sees(3, 1, 4, true);
        due("sees(1, 3, 4)", x.sees(1, 3, 4, true), 1);
        x.tell(1, 1);
        due("told though she came second", x.about(3, 3), 5);
    }

    static void promise05_eachPairAndDayAlone() {
        SurpriseSaturday x = nine();
        for (int pair = 0; pair < 81; pair++) {
            for (int day = 1; day <= 8; day++) {
                if (pair / 9 < pair % 9 && (pair + day) % 2 == 0) {
                    x.sees(pair / 9, pair % 9, day, true);
                }
            }
        }
        for (int pair = 0; pair < 81; pair++) {
            for (int day = 1; day <= 8; day++) {
                if (pair / 9 < pair % 9) {
                    due("pair " + pair + " on " + day, x.sees(pair % 9, pair / 9, day, false), (pair + day + 1) % 2);
                }
            }
        }
    }

    static void promise05_noMoreSeenIsNoMoreTold() {
        SurpriseSaturday x = some();
        x.tell(1, 1);
        x.sees(1, 0, 8, true);
        due("about(0, 3)", x.about(0, 3), 9);
        x.sees(0, 1, 8, false);
        due("about(0, 3) then", x.about(0, 3), NONE);
    }

    static void promise05_aRefusedOneChangesNothing() {
        refused("sees(9, 0, 1)", Edges::full, x -> x.sees(9, 0, 1, true), UNKNOWN);
        refused("sees(0, -1, 1)", Edges::full, x -> x.sees(0, -1, 1, true), UNKNOWN);
        refused("sees(1, 1, 1)", Edges::full, x -> x.sees(1, 1, 1, true), UNKNOWN);
        refused("sees(1, 0, 0)", Edges::full, x -> x.sees(1, 0, 0, true), OUTSIDE);
        refused("sees(1, 0, 9)", Edges::full, x -> x.sees(1, 0, 9, false), OUTSIDE);
    }

    // ---- 6 tell

    static void promise06_daysAre0To8() {
        SurpriseSaturday x = some();
        for (int day : new int[] {LOW, -1, 9, HIGH}) {
            due("tell(0, " + day + ")", x.tell(0, day), OUTSIDE);
        }
        for (int day = 0; day <= 8; day++) {
            due("tell(0, " + day + ")", x.tell(0, day), day == 0 ? 0 : day - 1);
        }
        due("the last", x.about(0, 2), 8);
    }

    static void promise06_guestsThatAreThere() {
        for (int guest : new int[] {LOW, -1, 5, HIGH}) {
            due("tell(" + guest + ", 1)", some().tell(guest, 1), UNKNOWN);
        }
        due("tell(8, 1) of nine", nine().tell(8, 1), 0);
        due("tell(9, 1) of nine", nine().tell(9, 1), UNKNOWN);
    }

    static void promise06_unknownAheadOfOutside() {
        due("tell(5, 9)", some().tell(5, 9), UNKNOWN);
        due("tell(-1, -1)", some().tell(-1, -1), UNKNOWN);
    }

    static void promise06_onWhichDayItWas() {
        SurpriseSaturday x = some();
        due("not at all, at first", x.tell(2, 8), 0);
        due("on 8", x.tell(2, 8), 8);
        due("on 8 still", x.tell(2, 1), 8);
        due("on 1", x.tell(2, 0), 1);
        due("not at all", x.tell(2, 0), 0);
    }

    static void promise06_whatItWasIsNotWhatItHeard() {
        SurpriseSaturday x = some();
        x.tell(1, 1);
        x.sees(1, 0, 2, true);
        due("it heard, and was not told", x.tell(0, 7), 0);
        due("told on 7", x.about(0, 2), 7);
        due("heard on 2", x.about(0, 3), 3);
    }

    static void promise06_notToldIsNotHeardByOthers() {
        SurpriseSaturday x = some();
        x.tell(1, 1);
        x.sees(1, 0, 1, true);
        x.tell(1, 0);
        due("the aunt", x.about(1, 3), NONE);
        due("whom she saw", x.about(0, 3), NONE);
        due("count(4)", x.count(4), 0);
    }

    static void promise06_eachAlone() {
        SurpriseSaturday x = nine();
        for (int guest = 0; guest < 9; guest++) {
            x.tell(guest, guest % 9);
        }
        for (int guest = 0; guest < 9; guest++) {
            due("about(" + guest + ", 2)", x.about(guest, 2), guest % 9);
        }
    }

    static void promise06_aRefusedOneChangesNothing() {
        refused("tell(9, 1)", Edges::full, x -> x.tell(9, 1), UNKNOWN);
        refused("tell(0, 9)", Edges::full, x -> x.tell(0, 9), OUTSIDE);
        refused("tell(0, -1)", Edges::full, x -> x.tell(0, -1), OUTSIDE);
    }

    public static void main(String[] args) {
        runAll(GuestEdgeTests.class);
    }
}
