import java.math.BigInteger;

/** Promises 25 and 26 at their edges: one test for each sentence that names one. */
public final class SaturdayEdgeTests extends Edges {
    private static void dueQuiet(int guests, int tenths, int minutes, long above, long below) {
        SurpriseSaturday x = new SurpriseSaturday();
        String call = "quiet(" + guests + ", " + tenths + ", " + minutes + ")";
        dueParts(call, x.quiet(guests, tenths, minutes, 0), x.quiet(guests, tenths, minutes, 1), above, below);
    }

    private static void dueOutside(int guests, int tenths, int minutes, int part) {
        String call = "quiet(" + guests + ", " + tenths + ", " + minutes + ", " + part + ")";
        due(call, new SurpriseSaturday().quiet(guests, tenths, minutes, part), OUTSIDE);
    }

    private static void dueWeeks(String when, SurpriseSaturday x, int seed, int meeting, int guest, int then) {
        due("weeks(" + seed + ", 0) " + when, x.weeks(seed, 0), meeting);
        due("weeks(" + seed + ", 1) " + when, x.weeks(seed, 1), guest);
        due("weeks(" + seed + ", 2) " + when, x.weeks(seed, 2), then);
    }

    private static int next(int seed) {
        BigInteger product = BigInteger.valueOf(1103515245L).multiply(BigInteger.valueOf(seed));
        return product.add(BigInteger.valueOf(12345)).mod(BigInteger.ONE.shiftLeft(31)).intValueExact();
    }

    private static int drawBehind(int seed) {
        return next(seed) / 65536 % 10;
    }

    /** The first seed of this many or more that draws so. */
    private static int seedThatDraws(int draw, int from) {
        int seed = from;
        while (drawBehind(seed) != draw) {
            seed++;
        }
        return seed;
    }

    // ---- 25 quiet

    static void promise25_guestsAre1To9() {
        for (int guests : new int[] {LOW, -1, 0, 10, 18, HIGH}) {
            dueOutside(guests, 1, 1, 0);
        }
        dueQuiet(1, 1, 1, 9, 10);
        dueQuiet(9, 1, 1, 387420489, 1000000000);
    }

    static void promise25_tenthsAre0To9() {
        for (int tenths : new int[] {LOW, -1, 10, HIGH}) {
            dueOutside(1, tenths, 1, 0);
        }
        dueQuiet(1, 0, 1, 1, 1);
        dueQuiet(1, 9, 1, 1, 10);
    }

    static void promise25_minutesAre1AtLeast() {
        for (int minutes : new int[] {LOW, -1, 0}) {
            dueOutside(1, 1, minutes, 0);
            dueOutside(9, 1, minutes, 1);
        }
        dueQuiet(1, 2, 1, 4, 5);
    }

    static void promise25_guestsByMinutesAre18AtMost() {
        for (int guests = 1; guests <= 9; guests++) {
            int most = 18 / guests;
            long below = 1;
            for (int i = 0; i < guests * most; i++) {
                below *= 2;
            }
            dueQuiet(guests, 5, most, 1, below);
            dueOutside(guests, 5, most + 1, 0);
            dueOutside(guests, 5, HIGH, 0);
        }
    }

    static void promise25_aProductThatWrapsIsTooMuch() {
        dueOutside(2, 1, 1 << 30, 0);
        dueOutside(4, 1, 1 << 30, 0);
        dueOutside(4, 1, (1 << 30) + 1, 0);
        dueOutside(8, 1, (1 << 29) + 2, 0);
        dueOutside(3, 1, 1431655766, 0);
        dueOutside(9, 1, 477218589, 0);
    }

    static void promise25_partsAre0And1() {
        for (int part : new int[] {LOW, -1, 2, HIGH}) {
            dueOutside(1, 1, 1, part);
        }
    }

    static void promise25_allOfThemOutside() {
        dueOutside(0, 10, 0, 2);
        dueOutside(-3, 5, -3, 0);
        dueOutside(LOW, LOW, LOW, LOW);
        dueOutside(HIGH, HIGH, HIGH, HIGH);
    }

    static void promise25_inLowestTerms() {
        dueQuiet(1, 2, 2, 16, 25);
        dueQuiet(2, 5, 9, 1, 262144);
        dueQuiet(3, 8, 6, 1, 3814697265625L);
        dueQuiet(9, 9, 2, 1, 1000000000000000000L);
        dueQuiet(1, 1, 18, 150094635296999121L, 1000000000000000000L);
        dueQuiet(6, 7, 3, 387420489, 1000000000000000000L);
    }

    static void promise25_whoIsNeverHeard() {
        dueQuiet(9, 0, 2, 1, 1);
        dueQuiet(1, 0, 18, 1, 1);
    }

    static void promise25_theGuestsNeedNotBeThere() {
        due("of nobody", new SurpriseSaturday().quiet(9, 5, 1, 1), 512);
        due("of nine", nine().quiet(9, 5, 1, 1), 512);
    }

    static void promise25_aRefusedOneChangesNothing() {
        refused("quiet(10, 1, 1, 0)", Edges::full, x -> x.quiet(10, 1, 1, 0), OUTSIDE);
        refused("quiet(5, 1, 4, 0)", Edges::full, x -> x.quiet(5, 1, 4, 0), OUTSIDE);
        changesNothing("quiet(9, 9, 2, 1)", Edges::full, x -> x.quiet(9, 9, 2, 1));
    }

    // ---- 26 weeks

    static void promise26_theSeedIs0AtLeast() {
        SurpriseSaturday x = tell(read(some(), "015"), "1");
        for (int seed : new int[] {LOW, -2, -1}) {
            for (int what = 0; what <= 2; what++) {
                due("weeks(" + seed + ", " + what + ")", x.weeks(seed, what), OUTSIDE);
            }
        }
        dueWeeks("of the least", x, 0, 0, 0, 12345);
        dueWeeks("of the greatest", x, HIGH, NONE, NONE, 1043980748);
    }

    static void promise26_whatIs0To2() {
        for (int what : new int[] {LOW, -1, 3, HIGH}) {
            due("weeks(0, " + what + ")", some().weeks(0, what), OUTSIDE);
            due("weeks(-1, " + what + ")", some().weeks(-1, what), OUTSIDE);
        }
    }

    static void promise26_withoutMeetingsTheSeedStays() {
        for (int seed : new int[] {0, 1, HIGH}) {
            dueWeeks("of a new object", new SurpriseSaturday(), seed, NONE, NONE, seed);
            dueWeeks("without a list", tell(some(), "11111"), seed, NONE, NONE, seed);
        }
    }

    static void promise26_whoDoesNotKnowDrawsNone() {
        for (int seed : new int[] {0, 1, HIGH}) {
            dueWeeks("nobody knows", read(some(), times("019", 15)), seed, NONE, NONE, seed);
            SurpriseSaturday late = tell(read(some(), "019,029,039"), "3");
            due("two draw none", late.weeks(seed, 2), next(seed));
        }
    }

    static void promise26_whoKnowsDrawsByNoTenthsToo() {
        SurpriseSaturday x = tell(read(some(), "311,411"), "00011");
        for (int seed = 0; seed < 50; seed++) {
            dueWeeks("half of one tenth", x, seed, NONE, NONE, next(next(seed)));
        }
    }

    static void promise26_aWordSlipsBelowTheTenths() {
        for (int tenths = 1; tenths <= 9; tenths++) {
            SurpriseSaturday x = tell(read(some(), "01" + tenths), "1");
            int below = seedThatDraws(tenths - 1, 100);
            dueWeeks("below " + tenths, x, below, 0, 0, next(below));
            int like = seedThatDraws(tenths, 100);
            dueWeeks("not below " + tenths, x, like, NONE, NONE, next(like));
        }
        dueWeeks("8 is below 9", tell(read(some(), "019"), "1"), 1, 0, 0, 1103527590);
        dueWeeks("8 is not below 8", tell(read(some(), "018"), "1"), 1, NONE, NONE, 1103527590);
    }

    static void promise26_aQuietOneAndAHostByHalf() {
        for (int tenths = 2; tenths <= 9; tenths++) {
            SurpriseSaturday quiet = tell(read(some(), "31" + tenths), "0001");
            SurpriseSaturday host = tell(read(some(), "41" + tenths), "00001");
            int below = seedThatDraws(tenths / 2 - 1, 7);
            int like = seedThatDraws(tenths / 2, 7);
            dueWeeks("below half of " + tenths, quiet, below, 0, 3, next(below));
            dueWeeks("below half of " + tenths, host, below, 0, 4, next(below));
            dueWeeks("not below half of " + tenths, quiet, like, NONE, NONE, next(like));
            dueWeeks("not below half of " + tenths, host, like, NONE, NONE, next(like));
        }
    }

    static void promise26_itEndsByTheFirstOne() {
        SurpriseSaturday x = tell(read(some(), "011,119,129"), "11");
        for (int seed = 0; seed < 60; seed++) {
            int second = next(seed);
            int third = next(second);
            if (drawBehind(seed) < 1) {
                dueWeeks("at the first", x, seed, 0, 0, second);
            } else if (drawBehind(second) < 9) {
                dueWeeks("at the second", x, seed, 1, 1, third);
            }
        }
    }

    static void promise26_theMeetingAsTheyCome() {
        SurpriseSaturday x = tell(read(some(), "189,019"), "21");
        dueWeeks("the first does not know", x, 0, 1, 1, 12345);
        x.tell(0, 1);
        dueWeeks("the first by day", x, 0, 0, 0, 12345);
    }

    static void promise26_ofOneDayInTheOrderOfTheList() {
        SurpriseSaturday x = tell(read(some(), "119,019"), "11");
        dueWeeks("the first of the list", x, 0, 0, 1, 12345);
    }

    static void promise26_fifteenDraws() {
        SurpriseSaturday x = tell(read(some(), times("311", 15)), "0001");
        int then = HIGH;
        for (int i = 0; i < 15; i++) {
            then = next(then);
        }
        dueWeeks("none slips", x, HIGH, NONE, NONE, then);
        SurpriseSaturday last = tell(read(some(), times("311", 14) + ",089"), "8001");
        for (int seed = 0; seed < 30; seed++) {
            int ahead = seed;
            for (int i = 0; i < 14; i++) {
                ahead = next(ahead);
            }
            boolean slips = drawBehind(ahead) < 9;
            dueWeeks("the last", last, seed, slips ? 14 : NONE, slips ? 0 : NONE, next(ahead));
        }
    }

    static void promise26_theSameSeedTellsTheSame() {
        SurpriseSaturday x = full();
        for (int seed = 0; seed < 20; seed++) {
            dueWeeks("again", x, seed, x.weeks(seed, 0), x.weeks(seed, 1), x.weeks(seed, 2));
        }
    }

    static void promise26_aRefusedOneChangesNothing() {
        refused("weeks(-1, 0)", Edges::full, x -> x.weeks(-1, 0), OUTSIDE);
        refused("weeks(0, 3)", Edges::full, x -> x.weeks(0, 3), OUTSIDE);
        changesNothing("weeks(7, 2)", Edges::full, x -> x.weeks(7, 2));
    }

    public static void main(String[] args) {
        runAll(SaturdayEdgeTests.class);
    }
}
