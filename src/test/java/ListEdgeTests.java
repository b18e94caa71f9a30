/** Promises 7 to 11 at their edges: one test for each sentence that names one. */
public final class ListEdgeTests extends Edges {
    /** Letters of no LIST, so many. */
    private static SurpriseSaturday pageOf(int letters) {
        return write(new SurpriseSaturday(), "x".repeat(letters));
    }

    private static long codeAt(long code, int place) {
        return code << 8 * place;
    }

    private static int faultOf(SurpriseSaturday x, String text) {
        return write(x, text).fault();
    }

    // ---- 7 letters

    static void promise07_upToEightUntilAByteThatIs0() {
        for (int many = 0; many <= 8; many++) {
            due(many + " letters", new SurpriseSaturday().letters(packed("abcdefgh".substring(0, many))), many);
        }
    }

    static void promise07_noneAtAll() {
        due("letters(0)", new SurpriseSaturday().letters(0), 0);
        due("letters(0) behind three", pageOf(3).letters(0), 3);
        due("letters(0) behind sixty", pageOf(60).letters(0), 60);
    }

    static void promise07_theLowestByteFirst() {
        SurpriseSaturday x = some();
        due("the letters 4, 8, 2", x.letters(0x323834L), 3);
        due("fault()", x.fault(), 3);
        x.list();
        due("its guest", x.meeting(0, 0), 4);
        due("its day", x.meeting(0, 1), 8);
        due("its tenths", x.meeting(0, 2), 2);
    }

    static void promise07_theyComeBehindThePage() {
        SurpriseSaturday x = some();
        for (int i = 0; i < 7; i++) {
            due("a letter more", x.letters("011,125".charAt(i)), i + 1);
        }
        due("list()", x.list(), 2);
        due("the second", x.meeting(1, 0), 1);
    }

    static void promise07_codesUpTo126() {
        for (int place = 0; place < 8; place++) {
            String ahead = "abcdefgh".substring(0, place);
            for (long code : new long[] {1, 126}) {
                long w = packed(ahead) | codeAt(code, place);
                due(code + " at " + place, new SurpriseSaturday().letters(w), place + 1);
            }
            for (long code : new long[] {127, 128, 254, 255}) {
                long w = packed(ahead) | codeAt(code, place);
                due(code + " at " + place, new SurpriseSaturday().letters(w), OUTSIDE);
            }
        }
        due("all bits", new SurpriseSaturday().letters(-1), OUTSIDE);
        due("the lowest long", new SurpriseSaturday().letters(Long.MIN_VALUE), OUTSIDE);
        due("the greatest long", new SurpriseSaturday().letters(Long.MAX_VALUE), OUTSIDE);
    }

    static void promise07_behindA0OnlyZeros() {
        for (int gap = 0; gap < 7; gap++) {
            String ahead = "abcdefgh".substring(0, gap);
            for (int place = gap + 1; place < 8; place++) {
                long w = packed(ahead) | codeAt('z', place);
                due("0 at " + gap + ", z at " + place, new SurpriseSaturday().letters(w), OUTSIDE);
            }
        }
        due("126 behind a 0", new SurpriseSaturday().letters(codeAt(126, 1)), OUTSIDE);
        due("1 behind seven zeros", new SurpriseSaturday().letters(codeAt(1, 7)), OUTSIDE);
        due("127 behind a 0", new SurpriseSaturday().letters(codeAt(127, 2) | 'a'), OUTSIDE);
    }

    static void promise07_sixtyAreTheMost() {
        for (int more = 1; more <= 8; more++) {
            long w = packed("abcdefgh".substring(0, more));
            due(more + " up to 60", pageOf(60 - more).letters(w), 60);
            due(more + " up to 61", pageOf(61 - more).letters(w), FULL);
            due(more + " behind 60", pageOf(60).letters(w), FULL);
        }
    }

    static void promise07_noneOfThemComesIfTheyAreTooMany() {
        SurpriseSaturday x = pageOf(58);
        due("three more", x.letters(packed("abc")), FULL);
        due("count(5)", x.count(5), 58);
        due("two more", x.letters(packed("ab")), 60);
    }

    static void promise07_outsideAheadOfFull() {
        due("127 behind 60", pageOf(60).letters(127), OUTSIDE);
        due("behind a 0, behind 60", pageOf(60).letters(codeAt('a', 1)), OUTSIDE);
        due("200 as the eighth, behind 55", pageOf(55).letters(packed("abcdefg") | codeAt(200, 7)), OUTSIDE);
    }

    static void promise07_aRefusedOneChangesNothing() {
        refused("letters(127)", Edges::middling, x -> x.letters(127), OUTSIDE);
        refused("a, b and 127", Edges::middling, x -> x.letters(packed("ab") | codeAt(127, 2)), OUTSIDE);
        refused("a, 0, b", Edges::middling, x -> x.letters(codeAt('b', 2) | 'a'), OUTSIDE);
        refused("a at sixty", Edges::full, x -> x.letters('a'), FULL);
        refused("three at 58", () -> write(some(), "x".repeat(58)), x -> x.letters(packed("abc")), FULL);
    }

    // ---- 8 blank

    static void promise08_howManyItHad() {
        for (int many : new int[] {0, 1, 59, 60}) {
            SurpriseSaturday x = pageOf(many);
            due("blank() of " + many, x.blank(), many);
            due("count(5)", x.count(5), 0);
            due("blank() again", x.blank(), 0);
        }
    }

    static void promise08_thereIsRoomThen() {
        SurpriseSaturday x = pageOf(60);
        x.blank();
        due("letters", x.letters(packed("abcdefgh")), 8);
    }

    static void promise08_nothingIsLeftOfIt() {
        SurpriseSaturday x = write(some(), "011,125");
        x.blank();
        due("fault()", x.fault(), 0);
        due("list()", x.list(), STATE);
        long empty = some().digest();
        due("digest() as of an empty page", x.digest(), empty);
    }

    static void promise08_theListStays() {
        SurpriseSaturday x = read(some(), "011,125");
        write(x, "x");
        due("blank()", x.blank(), 1);
        due("count(1)", x.count(1), 2);
        due("count(6)", x.count(6), 1);
        due("meeting(1, 2)", x.meeting(1, 2), 5);
    }

    // ---- 9 fault

    static void promise09_anEmptyPageHasNone() {
        due("without guests", new SurpriseSaturday().fault(), 0);
        due("with guests", some().fault(), 0);
    }

    static void promise09_aGuestThatIsThere() {
        SurpriseSaturday x = new SurpriseSaturday();
        for (int guests = 0; guests <= 9; guests++) {
            for (int digit = 0; digit <= 9; digit++) {
                x.blank();
                x.letters('0' + digit);
                due(digit + " of " + guests, x.fault(), digit < guests ? 1 : 0);
            }
            x.guest(0, 0);
        }
        due("the sign ahead of 0", faultOf(nine(), "/"), 0);
        due("the sign behind 9", faultOf(nine(), ":"), 0);
    }

    static void promise09_aDayFrom1To8() {
        for (char sign = '/'; sign <= ':'; sign++) {
            due("a day " + sign, faultOf(some(), "0" + sign), sign >= '1' && sign <= '8' ? 2 : 1);
        }
    }

    static void promise09_tenthsFrom1To9() {
        for (char sign = '/'; sign <= ':'; sign++) {
            due("tenths " + sign, faultOf(some(), "01" + sign), sign >= '1' && sign <= '9' ? 3 : 2);
        }
    }

    static void promise09_aCommaBetween() {
        for (char sign = 1; sign <= 126; sign++) {
            due("sign " + (int) sign, faultOf(some(), "011" + sign), sign == ',' ? 4 : 3);
        }
    }

    static void promise09_noOtherLetterIsADigit() {
        for (char sign = 1; sign <= 126; sign++) {
            if (sign < '0' || sign > '9') {
                due("guest " + (int) sign, faultOf(nine(), "" + sign), 0);
                due("day " + (int) sign, faultOf(nine(), "0" + sign), 1);
                due("tenths " + (int) sign, faultOf(nine(), "01" + sign), 2);
            }
        }
    }

    static void promise09_whatMayStillBecomeAListHasNone() {
        String list = times("489", 15);
        for (int letters = 0; letters <= 59; letters++) {
            due(letters + " letters", faultOf(some(), list.substring(0, letters)), letters);
        }
    }

    static void promise09_fifteenAtMost() {
        String list = times("489", 15);
        due("fifteen", faultOf(some(), list), 59);
        due("fifteen and a comma", faultOf(some(), list + ","), 59);
        due("fifteen and a digit", faultOf(some(), list + "0"), 59);
        due("fourteen and a comma", faultOf(some(), times("489", 14) + ","), 56);
    }

    static void promise09_theFirstOfThem() {
        due("at 0 and at 1", faultOf(some(), "90"), 0);
        due("at 1 and at 2", faultOf(some(), "000"), 1);
        due("at 4 and at 59", faultOf(some(), "011,x" + "011,".repeat(13) + "011"), 4);
        String list = times("011", 15);
        for (int place = 0; place < 59; place++) {
            String bad = list.substring(0, place) + "x" + list.substring(place + 1) + ",";
            due("x at " + place, faultOf(some(), bad), place);
        }
    }

    static void promise09_byTheGuestsThereNow() {
        SurpriseSaturday x = write(some(), "511");
        due("five guests", x.fault(), 0);
        x.guest(0, 0);
        due("six guests", x.fault(), 3);
    }

    static void promise09_itChangesNothing() {
        changesNothing("fault()", Edges::full, x -> x.fault());
        changesNothing("fault()", Edges::middling, x -> x.fault());
    }

    // ---- 10 list

    static void promise10_anEmptyPageIsNone() {
        due("without guests", new SurpriseSaturday().list(), STATE);
        due("with guests", some().list(), STATE);
    }

    static void promise10_oneToFifteen() {
        for (int many = 1; many <= 15; many++) {
            SurpriseSaturday x = write(some(), times("489", many));
            due("list()", x.list(), many);
            due("count(1)", x.count(1), many);
            due("the last", x.meeting(many - 1, 2), 9);
            due("behind the last", x.meeting(many, 2), UNKNOWN);
        }
    }

    static void promise10_whatIsNotWholeIsNone() {
        String list = times("489", 15) + ",";
        for (int letters = 0; letters <= 60; letters++) {
            int want = letters % 4 == 3 ? (letters + 1) / 4 : STATE;
            due(letters + " letters", write(some(), list.substring(0, letters)).list(), want);
        }
    }

    static void promise10_aPageWithAFaultIsNone() {
        String[] bad = {"511", "001", "091", "010", "01:", "011;011", "011,511", "011,091", "011,010", "0110011"};
        for (String text : bad) {
            due("list() of " + text, write(some(), text).list(), STATE);
        }
    }

    static void promise10_thePageIsEmptyThen() {
        SurpriseSaturday x = write(some(), times("011", 15));
        x.list();
        due("count(5)", x.count(5), 0);
        due("list() again", x.list(), STATE);
        due("eight letters more", x.letters(packed("011,011,")), 8);
    }

    static void promise10_anotherOneIsGone() {
        SurpriseSaturday x = read(some(), times("119", 15));
        tell(x, "11111");
        read(x, "482");
        due("count(1)", x.count(1), 1);
        due("the first", x.meeting(0, 0), 4);
        due("a second", x.meeting(1, 0), UNKNOWN);
        dueKnown("by the new one alone", x, 1, 10);
        read(x, times("119", 15));
        due("count(1)", x.count(1), 15);
    }

    static void promise10_howOftenOneWasRead() {
        SurpriseSaturday x = some();
        for (int times = 1; times <= 60; times++) {
            read(x, "011");
            due("count(6)", x.count(6), times);
        }
        write(x, "x");
        x.list();
        due("a refused one does not count", x.count(6), 60);
    }

    static void promise10_byTheGuestsThereNow() {
        SurpriseSaturday x = write(some(), "511");
        due("five guests", x.list(), STATE);
        x.guest(3, 0);
        due("six guests", x.list(), 1);
        due("meeting(0, 0)", x.meeting(0, 0), 5);
    }

    static void promise10_aRefusedOneChangesNothing() {
        refused("list() of two letters", Edges::middling, x -> x.list(), STATE);
        refused("list() of sixty", Edges::full, x -> x.list(), STATE);
        refused("list() of none", Edges::some, x -> x.list(), STATE);
        refused("list() of 013,912", () -> write(read(some(), "225"), "013,912"), x -> x.list(), STATE);
    }

    // ---- 11 meeting

    static void promise11_fromZeroAsManyAsThereAre() {
        SurpriseSaturday x = read(some(), times("011", 15));
        for (int meeting : new int[] {LOW, -1, 15, 16, HIGH}) {
            due("meeting(" + meeting + ", 0)", x.meeting(meeting, 0), UNKNOWN);
        }
        due("meeting(0, 1)", x.meeting(0, 1), 1);
        due("meeting(14, 1)", x.meeting(14, 1), 1);
        read(x, "011");
        due("meeting(0, 1) of one", x.meeting(0, 1), 1);
        due("meeting(1, 1) of one", x.meeting(1, 1), UNKNOWN);
    }

    static void promise11_whatIs0To3() {
        SurpriseSaturday x = tell(read(some(), "489"), "00001");
        int[] answers = {4, 8, 9, 4};
        for (int what = 0; what <= 3; what++) {
            due("meeting(0, " + what + ")", x.meeting(0, what), answers[what]);
        }
        for (int what : new int[] {LOW, -1, 4, HIGH}) {
            due("meeting(0, " + what + ")", x.meeting(0, what), OUTSIDE);
        }
    }

    static void promise11_unknownAheadOfOutside() {
        due("meeting(1, 4)", read(some(), "011").meeting(1, 4), UNKNOWN);
        due("meeting(-1, -1)", read(some(), "011").meeting(-1, -1), UNKNOWN);
        due("meeting(0, 4) of none", some().meeting(0, 4), UNKNOWN);
    }

    static void promise11_theyComeByDay() {
        SurpriseSaturday x = read(some(), "081,071,061,051,041,031,021,011");
        for (int at = 0; at < 8; at++) {
            due("day of " + at, x.meeting(at, 1), at + 1);
        }
    }

    static void promise11_ofOneDayInTheOrderOfTheList() {
        SurpriseSaturday x = read(some(), "449,438,147,146,245,234,343,342,041");
        int[] tenths = {8, 4, 9, 7, 6, 5, 3, 2, 1};
        for (int at = 0; at < 9; at++) {
            due("tenths of " + at, x.meeting(at, 2), tenths[at]);
        }
        SurpriseSaturday like = read(some(), times("484", 14) + ",011");
        due("a like one", like.meeting(14, 0), 4);
        due("the last of the list", like.meeting(0, 0), 0);
    }

    static void promise11_itSlipsFromTheDayOnWhichTheGuestKnows() {
        for (int told = 0; told <= 8; told++) {
            SurpriseSaturday x = read(some(), "014,024,034,044,054,064,074,084");
            x.tell(0, told);
            for (int day = 1; day <= 8; day++) {
                due("told on " + told + ", on " + day, x.meeting(day - 1, 3), told != 0 && told <= day ? 4 : 0);
            }
        }
    }

    static void promise11_itSlipsFromTheDayBehindHearing() {
        SurpriseSaturday x = read(some(), "044,054");
        x.tell(1, 4);
        x.sees(1, 0, 4, true);
        due("on the day of hearing", x.meeting(0, 3), 0);
        due("on the next", x.meeting(1, 3), 4);
    }

    static void promise11_whoKnowsFromSaturdayOnDoesNotSlip() {
        SurpriseSaturday x = read(some(), "084");
        x.tell(1, 8);
        x.sees(1, 0, 8, true);
        due("about(0, 3)", x.about(0, 3), 9);
        due("meeting(0, 3)", x.meeting(0, 3), 0);
    }

    static void promise11_aQuietOneAndAHostByHalfRoundedDown() {
        int[] halves = {0, 0, 1, 1, 2, 2, 3, 3, 4, 4};
        for (int tenths = 1; tenths <= 9; tenths++) {
            SurpriseSaturday x = tell(read(some(), "31" + tenths + ",41" + tenths), "00011");
            due("a quiet one by " + tenths, x.meeting(0, 3), halves[tenths]);
            due("a host by " + tenths, x.meeting(1, 3), halves[tenths]);
            due("as told", x.meeting(0, 2), tenths);
        }
    }

    static void promise11_theOthersByAll() {
        for (int tenths = 1; tenths <= 9; tenths++) {
            SurpriseSaturday x = tell(read(some(), "01" + tenths + ",11" + tenths + ",21" + tenths), "11100");
            for (int at = 0; at < 3; at++) {
                due("guest " + at + " by " + tenths, x.meeting(at, 3), tenths);
            }
        }
    }

    static void promise11_asItIsNow() {
        SurpriseSaturday x = read(some(), "018");
        x.image();
        x.tell(0, 1);
        due("told", x.meeting(0, 3), 8);
        x.tell(0, 2);
        due("told later", x.meeting(0, 3), 0);
        x.tell(0, 1);
        x.restore();
        due("restored", x.meeting(0, 3), 0);
    }

    static void promise11_aRefusedOneChangesNothing() {
        refused("meeting(15, 0)", Edges::full, x -> x.meeting(15, 0), UNKNOWN);
        refused("meeting(0, 4)", Edges::full, x -> x.meeting(0, 4), OUTSIDE);
        changesNothing("meeting(14, 3)", Edges::full, x -> x.meeting(14, 3));
    }

    public static void main(String[] args) {
        runAll(ListEdgeTests.class);
    }
}
