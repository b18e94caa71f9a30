/** Each promise by hand: ordinary inputs, the edges that the document names, wrong inputs. */
public final class PromiseTests {
    private static final int NONE = SurpriseSaturday.NONE;
    private static final int UNKNOWN = SurpriseSaturday.UNKNOWN;
    private static final int OUTSIDE = SurpriseSaturday.OUTSIDE;
    private static final int STATE = SurpriseSaturday.STATE;
    private static final int FULL = SurpriseSaturday.FULL;
    private static final int LOW = Integer.MIN_VALUE;
    private static final int HIGH = Integer.MAX_VALUE;

    private static int wrong = 0;

    private static void due(String call, long got, long want) {
        if (got != want) {
            wrong++;
            System.out.println(call + " answered " + got + ", due is " + want);
        }
    }

    private static void dueFraction(String call, long above, long below, long wantAbove, long wantBelow) {
        due(call + " above", above, wantAbove);
        due(call + " below", below, wantBelow);
    }

    private static void dueKnown(String call, SurpriseSaturday x, long above, long below) {
        dueFraction(call + " known", x.known(0), x.known(1), above, below);
    }

    private static long packed(String text) {
        long w = 0;
        for (int i = text.length() - 1; i >= 0; i--) {
            w = w << 8 | text.charAt(i);
        }
        return w;
    }

    private static void write(SurpriseSaturday x, String text) {
        for (int i = 0; i < text.length(); i += 8) {
            x.letters(packed(text.substring(i, Math.min(i + 8, text.length()))));
        }
    }

    private static void read(SurpriseSaturday x, String text) {
        x.blank();
        write(x, text);
        due("list of " + text, x.list(), (text.length() + 1) / 4);
    }

    /** 0 GUEST, 1 AUNT, 2 NEEDED by 5, 3 QUIET, 4 HOST by 7. */
    private static SurpriseSaturday party() {
        SurpriseSaturday x = new SurpriseSaturday();
        x.guest(0, 0);
        x.guest(1, 0);
        x.guest(2, 5);
        x.guest(3, 0);
        x.guest(4, 7);
        return x;
    }

    private static SurpriseSaturday ofKinds(int... kinds) {
        SurpriseSaturday x = new SurpriseSaturday();
        for (int kind : kinds) {
            x.guest(kind, kind == 2 || kind == 4 ? 8 : 0);
        }
        return x;
    }

    private static long mixed(long... numbers) {
        long h = 613;
        for (long number : numbers) {
            h = 31 * h + number;
        }
        return h;
    }

    private static void promise1NewObject() {
        SurpriseSaturday x = new SurpriseSaturday();
        for (int what = 0; what <= 7; what++) {
            due("new count " + what, x.count(what), 0);
        }
        due("new about", x.about(0, 0), UNKNOWN);
        due("new meeting", x.meeting(0, 0), UNKNOWN);
        due("new clash", x.clash(0, 1, true), UNKNOWN);
        due("new look", x.look(0, 0), UNKNOWN);
        due("new latest", x.latest(0), UNKNOWN);
        dueKnown("new", x, 0, 1);
        due("new right", x.right(), 1);
        due("new hole", x.hole(), NONE);
        due("new cover 0", x.cover(0), 0);
        due("new cover 1", x.cover(1), 0);
        dueFraction("new belief", x.belief(0, 0), x.belief(0, 1), 1, 2);
        due("new parting", x.parting(), NONE);
        due("new fault", x.fault(), 0);
        due("new blank", x.blank(), 0);
        due("new restore", x.restore(), STATE);
        due("new weeks", x.weeks(7, 2), 7);
        dueFraction("new best", x.best(0), x.best(1), 0, 1);
        due("new best 10", x.best(10), NONE);
    }

    private static void promise2Guest() {
        SurpriseSaturday x = new SurpriseSaturday();
        int[][] bad = {{-1, 0}, {5, 0}, {LOW, 0}, {HIGH, 0}, {0, 1}, {0, -1}, {1, 1}, {3, 8}, {2, 0}, {2, 9}, {2, -1},
            {4, 0}, {4, 9}, {4, LOW}, {2, HIGH}};
        for (int[] b : bad) {
            due("guest " + b[0] + " " + b[1], x.guest(b[0], b[1]), OUTSIDE);
        }
        due("none came", x.count(0), 0);
        int[][] good = {{0, 0}, {1, 0}, {2, 1}, {2, 8}, {3, 0}, {4, 1}, {4, 8}, {0, 0}, {1, 0}};
        for (int i = 0; i < good.length; i++) {
            due("guest number", x.guest(good[i][0], good[i][1]), i);
            due("its kind", x.about(i, 0), good[i][0]);
            due("its by", x.about(i, 1), good[i][1]);
        }
        due("a tenth guest", x.guest(0, 0), FULL);
        due("OUTSIDE ahead of FULL", x.guest(0, 1), OUTSIDE);
        due("nine stay", x.count(0), 9);
    }

    private static void promise3About() {
        SurpriseSaturday x = party();
        due("not told", x.about(0, 2), 0);
        due("does not know", x.about(0, 3), NONE);
        x.sees(1, 0, 8, true);
        x.sees(1, 2, 3, true);
        x.sees(1, 3, 2, true);
        x.tell(1, 3);
        due("told", x.about(1, 2), 3);
        due("knows from the day on", x.about(1, 3), 3);
        due("is told on that day, knows on the next", x.about(2, 3), 4);
        due("seen too early", x.about(3, 3), NONE);
        due("knows from Saturday on", x.about(0, 3), 9);
        x.sees(2, 3, 5, true);
        due("a NEEDED tells nobody", x.about(3, 3), NONE);
        x.tell(2, 8);
        due("told later than heard: told", x.about(2, 2), 8);
        due("told later than heard: knows", x.about(2, 3), 4);
        x.tell(2, 2);
        due("told ahead of hearing", x.about(2, 3), 2);
        due("UNKNOWN 5", x.about(5, 0), UNKNOWN);
        due("UNKNOWN -1", x.about(-1, 9), UNKNOWN);
        due("OUTSIDE 4", x.about(0, 4), OUTSIDE);
        due("OUTSIDE -1", x.about(0, -1), OUTSIDE);
        SurpriseSaturday aunts = ofKinds(1, 1, 1, 0);
        aunts.sees(0, 1, 4, true);
        aunts.sees(1, 2, 4, true);
        aunts.sees(1, 2, 5, true);
        aunts.sees(2, 3, 6, true);
        aunts.tell(0, 4);
        due("second aunt", aunts.about(1, 3), 5);
        due("third aunt: not on the same day", aunts.about(2, 3), 6);
        due("whom she sees", aunts.about(3, 3), 7);
        SurpriseSaturday both = ofKinds(1, 1, 0, 0);
        both.sees(0, 2, 1, true);
        both.sees(1, 3, 1, true);
        both.tell(0, 1);
        both.tell(1, 1);
        due("told by the one aunt", both.about(2, 3), 2);
        due("told by the other aunt on that day", both.about(3, 3), 2);
    }

    private static void promise4As() {
        SurpriseSaturday x = party();
        for (int guest = 0; guest < 5; guest++) {
            for (int kind = 0; kind < 5; kind++) {
                boolean is = kind == 0 || kind == guest || kind == 2 && guest == 4;
                due("as " + guest + " " + kind, x.as(guest, kind), is ? guest : NONE);
            }
        }
        due("UNKNOWN", x.as(5, 0), UNKNOWN);
        due("UNKNOWN ahead of OUTSIDE", x.as(-1, 9), UNKNOWN);
        due("OUTSIDE 5", x.as(0, 5), OUTSIDE);
        due("OUTSIDE -1", x.as(0, -1), OUTSIDE);
    }

    private static void promise5Sees() {
        SurpriseSaturday x = party();
        due("sees first", x.sees(1, 2, 1, true), 0);
        due("either way", x.sees(2, 1, 1, true), 1);
        due("another day", x.sees(1, 2, 8, true), 0);
        due("another pair", x.sees(1, 3, 1, false), 0);
        due("no longer", x.sees(2, 1, 1, false), 1);
        due("not any more", x.sees(1, 2, 1, false), 0);
        due("the other day stays", x.sees(1, 2, 8, true), 1);
        due("the same", x.sees(1, 1, 1, true), UNKNOWN);
        due("UNKNOWN a", x.sees(5, 1, 0, true), UNKNOWN);
        due("UNKNOWN b", x.sees(1, -1, 9, true), UNKNOWN);
        due("day 0", x.sees(0, 1, 0, true), OUTSIDE);
        due("day 9", x.sees(0, 1, 9, true), OUTSIDE);
        due("day low", x.sees(0, 1, LOW, true), OUTSIDE);
        x.tell(1, 8);
        due("knowing by it", x.about(2, 3), 9);
        x.sees(1, 2, 8, false);
        due("not knowing without it", x.about(2, 3), NONE);
    }

    private static void promise6Tell() {
        SurpriseSaturday x = party();
        due("tell", x.tell(0, 8), 0);
        due("tell again", x.tell(0, 1), 8);
        due("not at all", x.tell(0, 0), 1);
        due("was not", x.tell(0, 4), 0);
        due("OUTSIDE 9", x.tell(0, 9), OUTSIDE);
        due("OUTSIDE -1", x.tell(0, -1), OUTSIDE);
        due("UNKNOWN", x.tell(5, 9), UNKNOWN);
        due("UNKNOWN -1", x.tell(-1, 1), UNKNOWN);
        due("it stays", x.about(0, 2), 4);
    }

    private static void promise7Letters() {
        SurpriseSaturday x = new SurpriseSaturday();
        due("no letters", x.letters(0), 0);
        due("one", x.letters('a'), 1);
        due("code 126", x.letters(126), 2);
        due("code 1", x.letters(1), 3);
        due("code 127", x.letters(127), OUTSIDE);
        due("code 128", x.letters(128), OUTSIDE);
        due("code 255 at the end", x.letters(-1L << 56 | packed("abcdefg")), OUTSIDE);
        due("behind a 0", x.letters('a' | (long) 'b' << 16), OUTSIDE);
        due("all behind a 0", x.letters((long) 'b' << 8), OUTSIDE);
        due("nothing changed", x.count(5), 3);
        due("eight", x.letters(packed("abcdefgh")), 11);
        for (int i = 0; i < 6; i++) {
            x.letters(packed("abcdefgh"));
        }
        due("59", x.count(5), 59);
        due("above 60", x.letters(packed("ab")), FULL);
        due("OUTSIDE ahead of FULL", x.letters(packed("ab") | 200L << 16), OUTSIDE);
        due("59 still", x.count(5), 59);
        due("60", x.letters('a'), 60);
        due("none at 60", x.letters(0), 60);
        due("61", x.letters('a'), FULL);
        due("in their order", new SurpriseSaturday().letters(packed("xyz")), 3);
    }

    private static void promise8Blank() {
        SurpriseSaturday x = party();
        write(x, "011,0");
        due("blank", x.blank(), 5);
        due("blank again", x.blank(), 0);
        due("empty", x.count(5), 0);
        due("no list", x.list(), STATE);
    }

    private static void faultOf(String text, int want) {
        SurpriseSaturday x = party();
        write(x, text);
        due("fault of " + text, x.fault(), want);
        due("the page stays", x.count(5), text.length());
    }

    private static String listOf(int meetings) {
        return "411,".repeat(meetings).substring(0, meetings * 4 - 1);
    }

    private static void promise9Fault() {
        faultOf("", 0);
        faultOf("4", 1);
        faultOf("5", 0);
        faultOf("/", 0);
        faultOf(",", 0);
        faultOf("00", 1);
        faultOf("01", 2);
        faultOf("08", 2);
        faultOf("09", 1);
        faultOf("010", 2);
        faultOf("011", 3);
        faultOf("019", 3);
        faultOf("01:", 2);
        faultOf("011,", 4);
        faultOf("0111", 3);
        faultOf("011;", 3);
        faultOf("011,,", 4);
        faultOf("011,x11,y", 4);
        faultOf("488,389", 7);
        faultOf(listOf(15), 59);
        faultOf(listOf(15) + ",", 59);
        faultOf(listOf(15) + "1", 59);
        SurpriseSaturday nobody = new SurpriseSaturday();
        nobody.letters('0');
        due("no guests, no list", nobody.fault(), 0);
        nobody.guest(0, 0);
        due("a guest that is there now", nobody.fault(), 1);
    }

    private static void promise10List() {
        SurpriseSaturday x = party();
        due("empty page", x.list(), STATE);
        for (String bad : new String[] {"0", "01", "010", "011,", "011,0", "511", "091", "011 011", listOf(15) + ","}) {
            x.blank();
            write(x, bad);
            due("no list: " + bad, x.list(), STATE);
            due("the page stays: " + bad, x.count(5), bad.length());
        }
        due("none was read", x.count(6), 0);
        read(x, "011,125");
        due("page is empty", x.count(5), 0);
        due("meetings", x.count(1), 2);
        due("one read", x.count(6), 1);
        write(x, "9");
        due("bad one", x.list(), STATE);
        due("the list stays", x.count(1), 2);
        read(x, listOf(15));
        due("fifteen", x.count(1), 15);
        read(x, "489");
        due("another one is gone", x.count(1), 1);
        due("three read", x.count(6), 3);
        due("of the new one", x.meeting(0, 0), 4);
    }

    private static void promise11Meeting() {
        SurpriseSaturday x = party();
        read(x, "083,111,082,315,119,474,319");
        int[][] order = {{1, 1, 1}, {3, 1, 5}, {1, 1, 9}, {3, 1, 9}, {4, 7, 4}, {0, 8, 3}, {0, 8, 2}};
        for (int i = 0; i < order.length; i++) {
            for (int what = 0; what < 3; what++) {
                due("meeting " + i + " " + what, x.meeting(i, what), order[i][what]);
            }
            due("nobody knows " + i, x.meeting(i, 3), 0);
        }
        x.tell(3, 1);
        x.tell(0, 8);
        x.tell(4, 8);
        due("a QUIET by half of 5", x.meeting(1, 3), 2);
        due("a QUIET by half of 9", x.meeting(3, 3), 4);
        due("a HOST who knows too late", x.meeting(4, 3), 0);
        due("a GUEST who knows on the day", x.meeting(5, 3), 3);
        x.tell(4, 7);
        due("a HOST by half", x.meeting(4, 3), 2);
        due("UNKNOWN 7", x.meeting(7, 0), UNKNOWN);
        due("UNKNOWN -1", x.meeting(-1, 9), UNKNOWN);
        due("OUTSIDE 4", x.meeting(0, 4), OUTSIDE);
        due("OUTSIDE -1", x.meeting(0, -1), OUTSIDE);
        SurpriseSaturday needed = ofKinds(2, 1);
        read(needed, "017,117");
        needed.tell(0, 1);
        needed.tell(1, 1);
        due("a NEEDED by all", needed.meeting(0, 3), 7);
        due("an AUNT by all", needed.meeting(1, 3), 7);
    }

    private static void promise12Known() {
        SurpriseSaturday x = party();
        dueKnown("no list", x, 0, 1);
        read(x, "015,024,111");
        dueKnown("nobody knows", x, 0, 1);
        x.tell(0, 2);
        dueKnown("4 tenths", x, 2, 5);
        x.tell(0, 1);
        dueKnown("5 and 4 tenths", x, 7, 10);
        x.tell(1, 1);
        dueKnown("and 1 tenth", x, 73, 100);
        due("OUTSIDE 2", x.known(2), OUTSIDE);
        due("OUTSIDE -1", x.known(-1), OUTSIDE);
        SurpriseSaturday all = ofKinds(0);
        read(all, "019,".repeat(14) + "019");
        all.tell(0, 1);
        dueKnown("fifteen by 9 tenths", all, 999999999999999L, 1000000000000000L);
        SurpriseSaturday still = ofKinds(3);
        read(still, "011");
        still.tell(0, 1);
        dueKnown("half of one tenth is none", still, 0, 1);
    }

    private static void promise13Whose() {
        SurpriseSaturday x = party();
        due("no list", x.whose(0, 0), NONE);
        read(x, "015,124,013,215");
        due("nobody knows, above", x.whose(0, 0), NONE);
        due("nobody knows, below", x.whose(0, 1), NONE);
        due("OUTSIDE ahead of NONE", x.whose(0, 2), OUTSIDE);
        x.tell(0, 1);
        x.tell(1, 1);
        // by day: 0 by 5, 0 by 3, 2 not at all, 1 by 4: 50 + 15 and 35 * 4 / 10 of 79
        dueFraction("whose 0", x.whose(0, 0), x.whose(0, 1), 65, 79);
        dueFraction("whose 1", x.whose(1, 0), x.whose(1, 1), 14, 79);
        dueFraction("whose 2", x.whose(2, 0), x.whose(2, 1), 0, 1);
        x.tell(1, 0);
        dueFraction("alone", x.whose(0, 0), x.whose(0, 1), 1, 1);
        read(x, "011");
        dueFraction("one way of ten", x.whose(0, 0), x.whose(0, 1), 1, 1);
        due("UNKNOWN", x.whose(5, 0), UNKNOWN);
        due("UNKNOWN ahead of OUTSIDE", x.whose(-1, 5), UNKNOWN);
        due("OUTSIDE", x.whose(0, -1), OUTSIDE);
    }

    private static void promise14Right() {
        SurpriseSaturday x = party();
        due("none told", x.right(), 0);
        x.tell(2, 5);
        due("the HOST does not know", x.right(), 0);
        x.tell(4, 8);
        due("the HOST knows too late", x.right(), 0);
        x.tell(4, 7);
        due("each by its day", x.right(), 1);
        x.tell(2, 6);
        due("the NEEDED too late", x.right(), 0);
        x.tell(1, 1);
        x.sees(1, 2, 5, true);
        due("by an aunt, too late", x.right(), 0);
        x.sees(1, 2, 4, true);
        due("by an aunt, in time", x.right(), 1);
        due("none needed", ofKinds(0, 1, 3).right(), 1);
        due("the first is needed", ofKinds(2).right(), 0);
    }

    private static void promise15Best() {
        SurpriseSaturday x = party();
        read(x, "225,248,254,471,464,489");
        // 2 from 5 on slips by 4, sooner by more too; 4 from 7 on: half of 1 is none, half of 9 is 4; from 6 on by 2 too
        dueFraction("best", x.best(0), x.best(1), 16, 25);
        due("day of 2", x.best(12), 5);
        due("day of 4", x.best(14), 7);
        due("day of 0", x.best(10), 0);
        due("day of 1", x.best(11), 0);
        due("no such guest 5", x.best(15), NONE);
        due("no such guest 8", x.best(18), NONE);
        for (int what : new int[] {-1, 2, 9, 19, LOW, HIGH}) {
            due("OUTSIDE " + what, x.best(what), OUTSIDE);
        }
        due("done so often", x.count(7), 8);
        due("nobody was told", x.about(2, 2), 0);
        x.tell(0, 1);
        read(x, "019");
        dueFraction("nobody else is told", x.best(0), x.best(1), 0, 1);
        due("of like ones the first", x.best(12), 1);
        due("of like ones the first, the next", x.best(14), 1);
        SurpriseSaturday five = ofKinds(2, 4, 2, 4);
        due("four are fine", five.best(0), 0);
        five.guest(2, 1);
        due("five are not", five.best(0), STATE);
        due("OUTSIDE ahead of STATE", five.best(9), OUTSIDE);
        due("done once", five.count(7), 1);
        SurpriseSaturday often = ofKinds(2);
        for (int i = 0; i < 40; i++) {
            due("time " + i, often.best(10), 1);
        }
        due("done 40 times", often.best(10), STATE);
        due("STATE ahead of NONE", often.best(18), STATE);
        due("40", often.count(7), 40);
        SurpriseSaturday host = ofKinds(4);
        read(host, "011,021,032,081");
        due("a HOST's halves of one", host.best(10), 4);
        dueFraction("a HOST", host.best(0), host.best(1), 0, 1);
    }

    private static void promise16Hole() {
        SurpriseSaturday x = ofKinds(0, 0, 1, 0);
        due("none told", x.hole(), NONE);
        read(x, "011,111,315");
        x.tell(0, 1);
        x.tell(1, 1);
        due("of like ones the least", x.hole(), 0);
        x.tell(2, 1);
        due("an aunt who tells none is none", x.hole(), 0);
        read(x, "011,111,325");
        x.sees(2, 3, 1, true);
        due("through the aunt most", x.hole(), 2);
        x.tell(3, 2);
        due("who knows anyway", x.hole(), 0);
        read(x, "011,121");
        x.sees(2, 1, 1, true);
        x.tell(0, 0);
        due("knows by the aunt as well", x.hole(), NONE);
        SurpriseSaturday quiet = ofKinds(3);
        read(quiet, "011");
        quiet.tell(0, 1);
        due("none is less than none", quiet.hole(), NONE);
    }

    private static void promise17Latest() {
        SurpriseSaturday x = ofKinds(3, 0, 2, 4, 0);
        due("of guest 0", x.latest(0), 8);
        due("seen by none", x.latest(1), NONE);
        x.sees(0, 1, 8, true);
        due("seen on the last day", x.latest(1), 8);
        x.sees(0, 2, 3, true);
        due("seen on 3", x.latest(2), 3);
        x.sees(2, 3, 3, true);
        due("not on the same day", x.latest(3), NONE);
        x.sees(2, 3, 4, true);
        due("on the next", x.latest(3), 3);
        x.sees(1, 4, 8, true);
        x.tell(1, 1);
        due("who else is told does not matter", x.latest(4), NONE);
        x.sees(0, 2, 6, true);
        due("the greatest for 2", x.latest(2), 6);
        due("3 as it was", x.latest(3), 3);
        due("UNKNOWN", x.latest(5), UNKNOWN);
        due("UNKNOWN -1", x.latest(-1), UNKNOWN);
    }

    private static void promise18Story() {
        SurpriseSaturday x = new SurpriseSaturday();
        due("OUTSIDE -1", x.story(-1), OUTSIDE);
        due("OUTSIDE 512", x.story(512), OUTSIDE);
        due("none", x.story(0), 0);
        due("all", x.story(511), 1);
        for (int i = 2; i < 8; i++) {
            due("story", x.story(i), i);
        }
        due("FULL", x.story(1), FULL);
        due("OUTSIDE ahead of FULL", x.story(LOW), OUTSIDE);
        due("eight", x.count(2), 8);
    }

    private static void promise19Clash() {
        SurpriseSaturday x = new SurpriseSaturday();
        x.story(1);
        x.story(2);
        x.story(3);
        due("clash", x.clash(0, 1, true), 0);
        due("either way", x.clash(1, 0, true), 1);
        due("not the others", x.clash(0, 2, false), 0);
        due("no longer", x.clash(1, 0, false), 1);
        due("not any more", x.clash(0, 1, false), 0);
        due("the same", x.clash(1, 1, true), UNKNOWN);
        due("UNKNOWN a", x.clash(3, 0, true), UNKNOWN);
        due("UNKNOWN b", x.clash(0, -1, true), UNKNOWN);
        x.clash(0, 2, true);
        due("from the first", x.clash(0, 2, true), 1);
        due("from the second", x.clash(2, 0, true), 1);
    }

    private static void dueCover(String call, SurpriseSaturday x, int many, int bits) {
        due(call + ": how many", x.cover(0), many);
        due(call + ": which", x.cover(1), bits);
    }

    private static void promise20Cover() {
        SurpriseSaturday x = ofKinds(0, 1, 0, 0);
        dueCover("nobody knows", x, 0, 0);
        x.tell(0, 1);
        dueCover("no stories", x, NONE, NONE);
        x.story(2);
        dueCover("no story of 0", x, NONE, NONE);
        x.story(1);
        x.story(4);
        x.tell(1, 8);
        x.sees(1, 2, 8, true);
        dueCover("who knows on Saturday counts", x, 3, 7);
        x.story(5);
        dueCover("fewer", x, 2, 9);
        x.story(6);
        dueCover("of like ones the least bits", x, 2, 9);
        x.clash(0, 3, true);
        dueCover("no clash", x, 2, 18);
        x.clash(1, 4, true);
        dueCover("the next without a clash", x, 2, 24);
        x.clash(3, 4, true);
        dueCover("three go together", x, 3, 7);
        x.clash(0, 2, true);
        dueCover("none goes together", x, NONE, NONE);
        SurpriseSaturday all = ofKinds(0, 0, 0, 0, 0, 0, 0, 0);
        for (int i = 0; i < 8; i++) {
            all.story(1 << i);
            all.tell(i, 1);
        }
        dueCover("all eight", all, 8, 255);
        all.tell(7, 0);
        dueCover("seven", all, 7, 127);
        due("OUTSIDE 2", x.cover(2), OUTSIDE);
        due("OUTSIDE -1", x.cover(-1), OUTSIDE);
    }

    private static void promise21Sign() {
        SurpriseSaturday x = new SurpriseSaturday();
        int[][] bad = {{0, 1}, {10, 1}, {1, 0}, {1, 10}, {-1, 5}, {5, LOW}};
        for (int[] b : bad) {
            due("sign " + b[0] + " " + b[1], x.sign(b[0], b[1]), OUTSIDE);
        }
        due("first", x.sign(1, 9), 0);
        due("second", x.sign(9, 1), 1);
        for (int i = 2; i < 8; i++) {
            due("sign", x.sign(i, i), i);
        }
        due("FULL", x.sign(1, 1), FULL);
        due("OUTSIDE ahead of FULL", x.sign(1, 0), OUTSIDE);
        due("eight", x.count(3), 8);
    }

    private static void promise22Look() {
        SurpriseSaturday x = new SurpriseSaturday();
        x.sign(6, 3);
        due("look", x.look(0, 1), 0);
        due("was seen", x.look(0, 2), 1);
        due("was not seen", x.look(0, 0), 2);
        due("was not looked for", x.look(0, 0), 0);
        due("OUTSIDE 3", x.look(0, 3), OUTSIDE);
        due("OUTSIDE -1", x.look(0, -1), OUTSIDE);
        due("UNKNOWN", x.look(1, 3), UNKNOWN);
        due("UNKNOWN -1", x.look(-1, 0), UNKNOWN);
    }

    private static void dueBelief(String call, SurpriseSaturday x, int takes, long above, long below) {
        dueFraction(call, x.belief(takes, 0), x.belief(takes, 1), above, below);
    }

    private static void promise23Belief() {
        SurpriseSaturday x = new SurpriseSaturday();
        dueBelief("no signs", x, 0, 1, 2);
        x.sign(8, 2);
        x.sign(2, 9);
        dueBelief("none looked for", x, 0, 1, 2);
        x.look(0, 1);
        dueBelief("seen", x, 0, 4, 5);
        dueBelief("a trail of 1: 8 goes to 7", x, 1, 7, 9);
        dueBelief("a trail of 5: 8 goes to 5", x, 5, 5, 7);
        dueBelief("a trail of 9: 8 goes to 2", x, 9, 1, 2);
        x.look(0, 2);
        dueBelief("not seen", x, 0, 1, 5);
        dueBelief("a trail counts for seen ones alone", x, 9, 1, 5);
        x.look(0, 0);
        x.look(1, 1);
        dueBelief("upwards", x, 0, 2, 11);
        dueBelief("a trail of 1: 2 goes to 3", x, 1, 1, 4);
        dueBelief("a trail of 8: 2 goes to 8", x, 8, 8, 17);
        due("OUTSIDE takes -1", x.belief(-1, 0), OUTSIDE);
        due("OUTSIDE takes 10", x.belief(10, 0), OUTSIDE);
        due("OUTSIDE part 2", x.belief(0, 2), OUTSIDE);
        due("OUTSIDE part -1", x.belief(0, -1), OUTSIDE);
        SurpriseSaturday sure = new SurpriseSaturday();
        for (int i = 0; i < 8; i++) {
            sure.sign(9, 1);
            sure.look(i, 1);
        }
        dueBelief("eight", sure, 0, 43046721, 43046722);
        SurpriseSaturday four = new SurpriseSaturday();
        int[][] signs = {{8, 2, 1}, {3, 4, 1}, {6, 1, 2}, {7, 5, 2}};
        for (int i = 0; i < 4; i++) {
            four.sign(signs[i][0], signs[i][1]);
            four.look(i, signs[i][2]);
        }
        // 8 * 3 * 4 * 3 to 2 * 4 * 9 * 5
        dueBelief("two seen, two not", four, 0, 4, 9);
    }

    private static void promise24Parting() {
        SurpriseSaturday x = new SurpriseSaturday();
        due("no signs", x.parting(), NONE);
        x.sign(5, 5);
        due("the only one", x.parting(), 0);
        x.sign(7, 4);
        x.sign(4, 7);
        due("of like ones the least", x.parting(), 1);
        x.sign(1, 9);
        due("parts best", x.parting(), 3);
        x.look(3, 2);
        due("looked for: no more; all alike then", x.parting(), 0);
        x.look(3, 0);
        due("not looked for again", x.parting(), 3);
        x.look(3, 1);
        due("seen: no more", x.parting(), 0);
        x.sign(9, 1);
        due("lesser of both stays as it is: all alike", x.parting(), 0);
        for (int i = 0; i < 5; i++) {
            x.look(i, 1 + i % 2);
        }
        due("all looked for", x.parting(), NONE);
        SurpriseSaturday odds = new SurpriseSaturday();
        odds.sign(7, 4);
        odds.sign(4, 1);
        odds.sign(9, 6);
        due("by even odds all alike", odds.parting(), 0);
        odds.look(0, 1);
        due("by 7 to 4: 40 and 31", odds.parting(), 2);
        odds.look(0, 2);
        due("by 3 to 6: 24 and 30", odds.parting(), 1);
    }

    private static void promise25Quiet() {
        SurpriseSaturday x = new SurpriseSaturday();
        dueFraction("1 by 1", x.quiet(1, 3, 1, 0), x.quiet(1, 3, 1, 1), 7, 10);
        dueFraction("2 by 3 of 5", x.quiet(2, 5, 3, 0), x.quiet(2, 5, 3, 1), 1, 64);
        dueFraction("never heard", x.quiet(9, 0, 2, 0), x.quiet(9, 0, 2, 1), 1, 1);
        dueFraction("9 by 2 of 9", x.quiet(9, 9, 2, 0), x.quiet(9, 9, 2, 1), 1, 1000000000000000000L);
        dueFraction("1 by 18 of 1", x.quiet(1, 1, 18, 0), x.quiet(1, 1, 18, 1), 150094635296999121L,
            1000000000000000000L);
        due("0 guests", x.quiet(0, 1, 1, 0), OUTSIDE);
        due("10 guests", x.quiet(10, 1, 1, 0), OUTSIDE);
        due("tenths -1", x.quiet(1, -1, 1, 0), OUTSIDE);
        due("tenths 10", x.quiet(1, 10, 1, 0), OUTSIDE);
        due("0 minutes", x.quiet(1, 1, 0, 0), OUTSIDE);
        due("minutes -1", x.quiet(1, 1, -1, 0), OUTSIDE);
        due("19 minutes", x.quiet(1, 1, 19, 0), OUTSIDE);
        due("5 by 4", x.quiet(5, 1, 4, 0), OUTSIDE);
        due("2 by 9", x.quiet(2, 8, 9, 0), 1);
        due("wraps round", x.quiet(4, 1, 1 << 30, 0), OUTSIDE);
        due("wraps round to little", x.quiet(8, 1, (1 << 29) + 1, 0), OUTSIDE);
        due("part 2", x.quiet(1, 1, 1, 2), OUTSIDE);
        due("part -1", x.quiet(1, 1, 1, -1), OUTSIDE);
    }

    private static int next(int seed) {
        return (int) Math.floorMod(1103515245L * seed + 12345, 1L << 31);
    }

    private static void promise26Weeks() {
        SurpriseSaturday x = ofKinds(0, 3);
        due("no list: the seed", x.weeks(HIGH, 2), HIGH);
        due("no list: no meeting", x.weeks(HIGH, 0), NONE);
        read(x, "029,111");
        due("nobody knows: the seed", x.weeks(5, 2), 5);
        x.tell(1, 1);
        due("who knows draws, by no tenths too", x.weeks(5, 2), next(5));
        due("but never slips", x.weeks(5, 0), NONE);
        due("no guest", x.weeks(5, 1), NONE);
        x.tell(0, 2);
        for (int seed = 0; seed < 40; seed++) {
            int first = next(seed);
            int second = next(first);
            boolean slips = second / 65536 % 10 < 9;
            due("the seed then " + seed, x.weeks(seed, 2), second);
            due("the meeting " + seed, x.weeks(seed, 0), slips ? 1 : NONE);
            due("the guest " + seed, x.weeks(seed, 1), slips ? 0 : NONE);
        }
        read(x, "025,025");
        for (int seed = 0; seed < 40; seed++) {
            int first = next(seed);
            boolean slips = first / 65536 % 10 < 5;
            due("it ends by the first " + seed, x.weeks(seed, 2), slips ? first : next(first));
        }
        due("the greatest seed", x.weeks(HIGH, 2) >= 0 ? 1 : 0, 1);
        SurpriseSaturday second = ofKinds(0, 0);
        read(second, "119");
        second.tell(1, 1);
        // 12345 is below 65536: the draw by seed 0 is 0
        due("the first meeting", second.weeks(0, 0), 0);
        due("is of guest 1", second.weeks(0, 1), 1);
        due("seed -1", x.weeks(-1, 0), OUTSIDE);
        due("seed low", x.weeks(LOW, 2), OUTSIDE);
        due("what 3", x.weeks(0, 3), OUTSIDE);
        due("what -1", x.weeks(0, -1), OUTSIDE);
    }

    private static void promise27And28Image() {
        SurpriseSaturday x = party();
        x.sign(6, 2);
        x.sees(1, 3, 8, true);
        x.tell(1, 4);
        x.look(0, 1);
        due("none kept", x.restore(), STATE);
        due("image", x.image(), 2);
        x.sees(1, 3, 8, false);
        x.sees(0, 1, 5, true);
        x.tell(1, 0);
        x.tell(2, 3);
        x.look(0, 2);
        read(x, "111");
        x.story(6);
        due("restore", x.restore(), 2);
        due("told as kept", x.about(1, 2), 4);
        due("not told as kept", x.about(2, 2), 0);
        due("knows as kept", x.about(3, 3), 9);
        due("seen as kept", x.sees(3, 1, 8, true), 1);
        due("not seen as kept", x.sees(0, 1, 5, false), 0);
        due("looked for as kept", x.look(0, 1), 1);
        due("the list stays", x.count(1), 1);
        due("the stories stay", x.count(2), 1);
        x.tell(0, 1);
        due("it goes on from the image", x.about(0, 3), 1);
        due("the image stays", x.restore(), 2);
        due("as kept once more", x.about(0, 3), NONE);
        x.tell(0, 2);
        due("the latest image", x.image(), 3);
        x.tell(0, 0);
        due("the latest one", x.restore(), 3);
        due("of it", x.about(0, 2), 2);
        x.sign(1, 1);
        due("a sign came", x.restore(), STATE);
        due("kept anew", x.image(), 3);
        due("fits again", x.restore(), 3);
        x.guest(0, 0);
        x.tell(5, 1);
        due("a guest came", x.restore(), STATE);
        due("nothing changed", x.about(5, 2), 1);
        SurpriseSaturday none = new SurpriseSaturday();
        due("of nobody", none.image(), 0);
        due("to nobody", none.restore(), 0);
    }

    private static void promise29Count() {
        SurpriseSaturday x = party();
        read(x, "011,022");
        read(x, "011,022,033");
        x.story(1);
        x.sign(1, 1);
        x.sign(1, 1);
        x.tell(1, 8);
        x.sees(1, 0, 8, true);
        x.sees(1, 2, 7, true);
        x.letters(packed("abcdef"));
        for (int i = 0; i < 7; i++) {
            x.best(0);
        }
        int[] want = {5, 3, 1, 2, 2, 6, 2, 7};
        for (int what = 0; what < want.length; what++) {
            due("count " + what, x.count(what), want[what]);
        }
        due("OUTSIDE 8", x.count(8), OUTSIDE);
        due("OUTSIDE -1", x.count(-1), OUTSIDE);
    }

    private static void promise30Digest() {
        SurpriseSaturday x = new SurpriseSaturday();
        due("new", x.digest(), mixed(0, 1, 1, -1, 0, 0, 1, 2, -1, 0, 0, 0, 0, 0, 0, 0, 0));
        x.guest(1, 0);
        x.guest(4, 3);
        read(x, "125,018");
        x.sees(0, 1, 1, true);
        x.tell(0, 1);
        x.story(0);
        x.story(3);
        x.sign(8, 2);
        x.sign(3, 4);
        x.look(0, 1);
        x.best(0);
        x.letters(packed("7~"));
        long all = mixed(1, 0, 1, 1, 8, 4, 3, 0, 2, 1, 0, 1, 8, 8, 1, 2, 5, 2, 21, 25, 1, 0, 1, 2,
            8, 2, 1, 3, 4, 0, 4, 5, 1, '7', '~', 2, 2, 2, 2, 2, 2, 1, 1);
        due("all", x.digest(), all);
        due("it changes nothing", x.digest(), all);
    }

    public static void main(String[] args) {
        promise1NewObject();
        promise2Guest();
        promise3About();
        promise4As();
        promise5Sees();
        promise6Tell();
        promise7Letters();
        promise8Blank();
        promise9Fault();
        promise10List();
        promise11Meeting();
        promise12Known();
        promise13Whose();
        promise14Right();
        promise15Best();
        promise16Hole();
        promise17Latest();
        promise18Story();
        promise19Clash();
        promise20Cover();
        promise21Sign();
        promise22Look();
        promise23Belief();
        promise24Parting();
        promise25Quiet();
        promise26Weeks();
        promise27And28Image();
        promise29Count();
        promise30Digest();
        System.out.println(wrong == 0 ? "all answers are as due" : wrong + " answers are not as due");
        if (wrong != 0) {
            System.exit(1);
        }
    }
}
