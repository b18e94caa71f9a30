import java.math.BigInteger;

/** Promises 27 to 30 at their edges, and what is told of all calls: one test for each sentence that names one. */
public final class WholeEdgeTests extends Edges {
    private static final String FULL_PAGE = times("011", 15) + ",";

    // ---- 27 image

    static void promise27_howManyKnowOnSaturday() {
        due("of nobody", new SurpriseSaturday().image(), 0);
        SurpriseSaturday x = some();
        due("none told", x.image(), 0);
        x.tell(1, 8);
        due("told on 8", x.image(), 1);
        x.sees(1, 0, 8, true);
        due("heard on 8", x.image(), 2);
        x.sees(1, 2, 7, true);
        due("seen too early", x.image(), 2);
        due("all nine", tell(nine(), "123456788").image(), 9);
    }

    static void promise27_oneIsKeptTheLatest() {
        SurpriseSaturday x = some();
        x.tell(0, 1);
        x.image();
        x.tell(0, 2);
        x.image();
        x.tell(0, 3);
        x.restore();
        due("about(0, 2)", x.about(0, 2), 2);
        x.restore();
        due("about(0, 2) again", x.about(0, 2), 2);
    }

    static void promise27_laterChangesAreNotInIt() {
        SurpriseSaturday x = party("G A");
        x.sign(4, 6);
        x.image();
        tell(x, "12");
        x.sees(0, 1, 1, true);
        x.look(0, 2);
        due("restore()", x.restore(), 0);
        due("about(0, 2)", x.about(0, 2), 0);
        due("about(1, 2)", x.about(1, 2), 0);
        due("sees(0, 1, 1)", x.sees(0, 1, 1, true), 0);
        due("look(0, 0)", x.look(0, 0), 0);
    }

    static void promise27_itChangesNothingElse() {
        long digest = full().digest();
        SurpriseSaturday x = full();
        x.image();
        due("digest()", x.digest(), digest);
    }

    // ---- 28 restore

    static void promise28_stateIfNoneWasKept() {
        due("of a new object", new SurpriseSaturday().restore(), STATE);
        due("of some", tell(some(), "1").restore(), STATE);
    }

    static void promise28_stateIfGuestsCame() {
        SurpriseSaturday x = some();
        x.image();
        x.guest(0, 0);
        due("one came", x.restore(), STATE);
        x.guest(1, 0);
        due("two came", x.restore(), STATE);
        due("count(0)", x.count(0), 7);
        SurpriseSaturday first = new SurpriseSaturday();
        first.image();
        first.guest(0, 0);
        due("the first came", first.restore(), STATE);
    }

    static void promise28_stateIfSignsCame() {
        SurpriseSaturday x = some();
        x.image();
        x.sign(1, 1);
        due("one came", x.restore(), STATE);
        SurpriseSaturday both = some();
        both.image();
        both.sign(1, 1);
        both.guest(0, 0);
        due("a sign and a guest came", both.restore(), STATE);
    }

    static void promise28_whoWasRefusedDidNotCome() {
        SurpriseSaturday x = full();
        x.image();
        due("guest(0, 0)", x.guest(0, 0), FULL);
        due("sign(1, 1)", x.sign(1, 1), FULL);
        due("guest(9, 9)", x.guest(9, 9), OUTSIDE);
        due("sign(0, 0)", x.sign(0, 0), OUTSIDE);
        due("restore()", x.restore(), x.count(4));
    }

    static void promise28_storiesAndListsMayCome() {
        SurpriseSaturday x = some();
        x.image();
        x.tell(0, 1);
        x.story(1);
        x.story(2);
        x.clash(0, 1, true);
        read(x, "011,022");
        x.letters('x');
        x.best(0);
        due("restore()", x.restore(), 0);
        dueCounts("then", x, 5, 2, 2, 0, 0, 1, 1, 1);
        due("clash(0, 1)", x.clash(0, 1, true), 1);
        due("meeting(1, 2)", x.meeting(1, 2), 2);
    }

    static void promise28_anotherImageWillDo() {
        SurpriseSaturday x = some();
        x.image();
        x.guest(0, 0);
        x.tell(5, 7);
        due("the first image", x.restore(), STATE);
        x.image();
        x.tell(5, 0);
        due("the second image", x.restore(), 1);
        due("about(5, 2)", x.about(5, 2), 7);
    }

    static void promise28_anImageOfNobody() {
        SurpriseSaturday x = new SurpriseSaturday();
        x.image();
        due("restore()", x.restore(), 0);
    }

    static void promise28_whoIsToldWhen() {
        SurpriseSaturday x = tell(nine(), "012345678");
        x.image();
        tell(x, "876543210");
        x.restore();
        for (int guest = 0; guest < 9; guest++) {
            due("about(" + guest + ", 2)", x.about(guest, 2), guest);
        }
    }

    static void promise28_whoSeesWhom() {
        SurpriseSaturday x = nine();
        for (int day = 1; day <= 8; day++) {
            x.sees(0, day, day, true);
            x.sees(8, day - 1, 9 - day, true);
        }
        x.image();
        for (int day = 1; day <= 8; day++) {
            x.sees(0, day, day, false);
            x.sees(8, day - 1, 9 - day, false);
            x.sees(3, 4, day, true);
        }
        x.restore();
        for (int day = 1; day <= 8; day++) {
            due("sees(" + day + ", 0, " + day + ")", x.sees(day, 0, day, true), 1);
            due("sees(8, " + (day - 1) + ", " + (9 - day) + ")", x.sees(8, day - 1, 9 - day, true), 1);
            due("sees(3, 4, " + day + ")", x.sees(3, 4, day, true), 0);
        }
    }

    static void promise28_whichSignsWereLookedFor() {
        SurpriseSaturday x = new SurpriseSaturday();
        for (int sign = 0; sign < 8; sign++) {
            x.sign(5, 6);
            x.look(sign, sign % 3);
        }
        x.image();
        for (int sign = 0; sign < 8; sign++) {
            x.look(sign, (sign + 1) % 3);
        }
        x.restore();
        for (int sign = 0; sign < 8; sign++) {
            due("look(" + sign + ", 0)", x.look(sign, 0), sign % 3);
        }
    }

    static void promise28_howManyKnowOnSaturday() {
        SurpriseSaturday x = some();
        x.tell(1, 8);
        x.sees(1, 3, 8, true);
        x.image();
        x.tell(1, 0);
        due("count(4) ahead", x.count(4), 0);
        due("restore()", x.restore(), 2);
        due("count(4)", x.count(4), 2);
        due("about(3, 3)", x.about(3, 3), 9);
    }

    static void promise28_theImageStays() {
        SurpriseSaturday x = some();
        x.tell(0, 5);
        x.image();
        for (int round = 1; round <= 3; round++) {
            x.tell(0, round);
            x.tell(1, round);
            due("restore() " + round, x.restore(), 1);
            due("about(0, 2)", x.about(0, 2), 5);
            due("about(1, 2)", x.about(1, 2), 0);
        }
    }

    static void promise28_aRefusedOneChangesNothing() {
        refused("restore() of none", Edges::some, x -> x.restore(), STATE);
        refused("restore() behind a guest", () -> {
            SurpriseSaturday x = middling();
            x.guest(1, 0);
            return x;
        }, x -> x.restore(), STATE);
        refused("restore() behind a sign", () -> {
            SurpriseSaturday x = middling();
            x.sign(6, 3);
            return x;
        }, x -> x.restore(), STATE);
    }

    // ---- 29 count

    static void promise29_whatIs0To7() {
        for (int what : new int[] {LOW, -1, 8, HIGH}) {
            due("count(" + what + ")", full().count(what), OUTSIDE);
        }
    }

    static void promise29_noneOfAll() {
        dueCounts("of a new object", new SurpriseSaturday(), 0, 0, 0, 0, 0, 0, 0, 0);
    }

    static void promise29_theMostOfAll() {
        SurpriseSaturday x = tell(spent(full(), 40), "111111111");
        dueCounts("of a full object", x, 9, 15, 8, 8, 9, 60, 1, 40);
    }

    static void promise29_whatWasRefusedIsNotCounted() {
        SurpriseSaturday x = spent(full(), 40);
        int knowing = x.count(4);
        x.guest(0, 0);
        x.list();
        x.story(1);
        x.sign(1, 1);
        x.letters('1');
        x.best(0);
        x.best(2);
        dueCounts("behind refusals", x, 9, 15, 8, 8, knowing, 60, 1, 40);
    }

    static void promise29_whoKnowsFromSaturdayOn() {
        SurpriseSaturday x = some();
        x.tell(1, 8);
        due("count(4), told on 8", x.count(4), 1);
        x.sees(1, 0, 8, true);
        due("count(4), heard on 8", x.count(4), 2);
        x.tell(1, 0);
        due("count(4), not told", x.count(4), 0);
    }

    static void promise29_aRefusedOneChangesNothing() {
        refused("count(8)", Edges::full, x -> x.count(8), OUTSIDE);
        refused("count(-1)", Edges::middling, x -> x.count(-1), OUTSIDE);
    }

    // ---- 30 digest

    private static final class Mixed {
        private BigInteger h = BigInteger.valueOf(613);

        void put(long number) {
            h = h.multiply(BigInteger.valueOf(31)).add(BigInteger.valueOf(number));
        }

        long wrapped() {
            return h.longValue();
        }
    }

    /** From what the other calls tell; with and without of its SIGNS, and its PAGE, are given. */
    private static long digestByCalls(SurpriseSaturday x, int[][] signs, String page) {
        Mixed mixed = new Mixed();
        for (int guest = 0; guest < x.count(0); guest++) {
            for (int what = 0; what <= 3; what++) {
                mixed.put(x.about(guest, what));
            }
            mixed.put(x.latest(guest));
        }
        for (int meeting = 0; meeting < x.count(1); meeting++) {
            for (int what = 0; what <= 3; what++) {
                mixed.put(x.meeting(meeting, what));
            }
        }
        mixed.put(x.known(0));
        mixed.put(x.known(1));
        mixed.put(x.right());
        mixed.put(x.hole());
        mixed.put(x.cover(0));
        mixed.put(x.cover(1));
        for (int sign = 0; sign < signs.length; sign++) {
            int how = x.look(sign, 0);
            x.look(sign, how);
            mixed.put(signs[sign][0]);
            mixed.put(signs[sign][1]);
            mixed.put(how);
        }
        mixed.put(x.belief(0, 0));
        mixed.put(x.belief(0, 1));
        mixed.put(x.parting());
        for (char letter : page.toCharArray()) {
            mixed.put(letter);
        }
        for (int what = 0; what <= 7; what++) {
            mixed.put(x.count(what));
        }
        return mixed.wrapped();
    }

    private static int[][] signsOfFull() {
        int[][] signs = new int[8][];
        for (int at = 0; at < 8; at++) {
            signs[at] = new int[] {9 - at, 2 + at % 4};
        }
        return signs;
    }

    static void promise30_ofANewObject() {
        due("digest()", new SurpriseSaturday().digest(), digestByCalls(new SurpriseSaturday(), new int[0][], ""));
        due("digest() by hand", new SurpriseSaturday().digest(), newByHand());
    }

    private static long newByHand() {
        long h = 613;
        for (int number : new int[] {0, 1, 1, -1, 0, 0, 1, 2, -1, 0, 0, 0, 0, 0, 0, 0, 0}) {
            h = 31 * h + number;
        }
        return h;
    }

    static void promise30_ofAMiddlingObject() {
        SurpriseSaturday x = middling();
        long digest = x.digest();
        due("digest()", digest, digestByCalls(x, new int[][] {{8, 2}, {3, 4}}, "01"));
    }

    static void promise30_ofAFullObjectItWraps() {
        SurpriseSaturday x = spent(full(), 40);
        long digest = x.digest();
        due("digest()", digest, digestByCalls(x, signsOfFull(), FULL_PAGE));
    }

    static void promise30_ofWhereThereIsNone() {
        SurpriseSaturday x = read(tell(some(), "00010"), "311");
        long digest = x.digest();
        due("cover(0)", x.cover(0), NONE);
        due("hole()", x.hole(), NONE);
        due("latest(4)", x.latest(4), NONE);
        due("digest()", digest, digestByCalls(x, new int[0][], ""));
    }

    static void promise30_theLettersInTheirOrder() {
        SurpriseSaturday x = write(some(), "ab~");
        due("digest()", x.digest(), digestByCalls(x, new int[0][], "ab~"));
        SurpriseSaturday y = write(some(), "~ba");
        due("digest() the other way", y.digest(), digestByCalls(y, new int[0][], "~ba"));
        due("they are not alike", x.digest() == y.digest() ? 1 : 0, 0);
    }

    static void promise30_itIsNotDone() {
        SurpriseSaturday x = middling();
        long digest = x.digest();
        due("digest() again", x.digest(), digest);
        due("count(7)", x.count(7), 0);
        changesNothing("digest()", Edges::full, y -> y.digest());
    }

    // ---- at most 512 calls of an object

    static void promise30_holdsForTheLastCallOf512() {
        SurpriseSaturday x = full();
        SurpriseSaturday y = full();
        for (int calls = callsOf(FULL_PAGE); calls < 511; calls++) {
            x.fault();
        }
        due("digest() as the last call", x.digest(), y.digest());
    }

    /** How many calls full() makes: guests, list, sees, tell, stories and signs, the rest, the page. */
    private static int callsOf(String page) {
        return 9 + 10 + 10 + 9 + 16 + 8 + (page.length() + 7) / 8;
    }

    static void promise06_holdsForTheLastCallOf512() {
        SurpriseSaturday x = some();
        for (int calls = 5; calls < 511; calls++) {
            x.tell(0, calls % 9);
        }
        due("tell() as the last call", x.tell(0, 0), 510 % 9);
    }

    static void promise10_holdsForTheLastCallOf512() {
        SurpriseSaturday x = party("G");
        for (int round = 0; round < 255; round++) {
            x.letters(packed("011"));
            x.list();
        }
        due("count(6) as the last call", x.count(6), 255);
    }

    static void promise28_holdsForTheLastCallOf512() {
        SurpriseSaturday x = party("G");
        for (int round = 0; round < 170; round++) {
            x.tell(0, 1 + round % 8);
            x.image();
            x.restore();
        }
        due("restore() as the last call", x.restore(), 1);
    }

    public static void main(String[] args) {
        runAll(WholeEdgeTests.class);
    }
}
