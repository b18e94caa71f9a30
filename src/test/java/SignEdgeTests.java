/** Promises 21 to 24 at their edges: one test for each sentence that names one. */
public final class SignEdgeTests extends Edges {
    private static final int[] NO_TENTHS = {LOW, -1, 0, 10, HIGH};

    /** Three digits each: with, without, how it was looked for. */
    private static SurpriseSaturday signs(String signs) {
        SurpriseSaturday x = new SurpriseSaturday();
        for (String one : signs.split(" ")) {
            int sign = x.sign(one.charAt(0) - '0', one.charAt(1) - '0');
            x.look(sign, one.charAt(2) - '0');
        }
        return x;
    }

    private static void dueBelief(String when, SurpriseSaturday x, int takes, long above, long below) {
        dueParts("belief(" + takes + ") " + when, x.belief(takes, 0), x.belief(takes, 1), above, below);
    }

    private static long divisor(long a, long b) {
        return b == 0 ? a : divisor(b, a % b);
    }

    // ---- 21 sign

    static void promise21_withIs1To9() {
        SurpriseSaturday x = new SurpriseSaturday();
        for (int with : NO_TENTHS) {
            due("sign(" + with + ", 5)", x.sign(with, 5), OUTSIDE);
        }
        due("sign(1, 5)", x.sign(1, 5), 0);
        due("sign(9, 5)", x.sign(9, 5), 1);
    }

    static void promise21_withoutIs1To9() {
        SurpriseSaturday x = new SurpriseSaturday();
        for (int without : NO_TENTHS) {
            due("sign(5, " + without + ")", x.sign(5, without), OUTSIDE);
        }
        due("sign(5, 1)", x.sign(5, 1), 0);
        due("sign(5, 9)", x.sign(5, 9), 1);
    }

    static void promise21_eightAtMostNumberedFrom0() {
        SurpriseSaturday x = new SurpriseSaturday();
        for (int number = 0; number < 8; number++) {
            due("sign(4, 6)", x.sign(4, 6), number);
            due("count(3)", x.count(3), number + 1);
        }
        due("the ninth", x.sign(4, 6), FULL);
        due("count(3)", x.count(3), 8);
    }

    static void promise21_outsideAheadOfFull() {
        due("sign(0, 5)", full().sign(0, 5), OUTSIDE);
        due("sign(5, 10)", full().sign(5, 10), OUTSIDE);
    }

    static void promise21_aNewOneIsNotLookedFor() {
        SurpriseSaturday x = signs("821 142");
        due("sign(9, 1)", x.sign(9, 1), 2);
        due("look(2, 0)", x.look(2, 0), 0);
    }

    static void promise21_aRefusedOneChangesNothing() {
        refused("sign(0, 5)", Edges::middling, x -> x.sign(0, 5), OUTSIDE);
        refused("sign(5, 10)", Edges::middling, x -> x.sign(5, 10), OUTSIDE);
        refused("sign(5, 5) at eight", Edges::full, x -> x.sign(5, 5), FULL);
    }

    // ---- 22 look

    static void promise22_howIs0To2() {
        SurpriseSaturday x = signs("820");
        for (int how : new int[] {LOW, -1, 3, HIGH}) {
            due("look(0, " + how + ")", x.look(0, how), OUTSIDE);
        }
        for (int how = 0; how <= 2; how++) {
            x.look(0, how);
            due("look(0, 0) behind " + how, x.look(0, 0), how);
        }
    }

    static void promise22_signsThatAreThere() {
        SurpriseSaturday x = signs("820 340");
        for (int sign : new int[] {LOW, -1, 2, 8, HIGH}) {
            due("look(" + sign + ", 1)", x.look(sign, 1), UNKNOWN);
        }
        due("look(1, 1)", x.look(1, 1), 0);
        due("look(7, 0) of eight", full().look(7, 0), 2);
        due("look(8, 0) of eight", full().look(8, 0), UNKNOWN);
    }

    static void promise22_unknownAheadOfOutside() {
        due("look(1, 3)", signs("820").look(1, 3), UNKNOWN);
        due("look(-1, -1)", signs("820").look(-1, -1), UNKNOWN);
    }

    static void promise22_howItWas() {
        for (int first = 0; first <= 2; first++) {
            for (int then = 0; then <= 2; then++) {
                SurpriseSaturday x = signs("820 340");
                due("at first", x.look(1, first), 0);
                due("from " + first, x.look(1, then), first);
                due("to " + then, x.look(1, 0), then);
                due("the other", x.look(0, 0), 0);
            }
        }
    }

    static void promise22_aRefusedOneChangesNothing() {
        refused("look(8, 1)", Edges::full, x -> x.look(8, 1), UNKNOWN);
        refused("look(0, 3)", Edges::full, x -> x.look(0, 3), OUTSIDE);
        refused("look(0, -1)", Edges::full, x -> x.look(0, -1), OUTSIDE);
    }

    // ---- 23 belief

    static void promise23_takesIs0To9() {
        SurpriseSaturday x = signs("821");
        for (int takes : new int[] {LOW, -1, 10, HIGH}) {
            due("belief(" + takes + ", 0)", x.belief(takes, 0), OUTSIDE);
            due("belief(" + takes + ", 1)", x.belief(takes, 1), OUTSIDE);
        }
        dueBelief("as it is", x, 0, 4, 5);
        dueBelief("by the most", x, 9, 1, 2);
    }

    static void promise23_partsAre0And1() {
        for (int part : new int[] {LOW, -1, 2, HIGH}) {
            due("belief(0, " + part + ")", signs("821").belief(0, part), OUTSIDE);
            due("belief(10, " + part + ")", signs("821").belief(10, part), OUTSIDE);
        }
    }

    static void promise23_fiveTenthsAheadOfAll() {
        dueBelief("without signs", new SurpriseSaturday(), 0, 1, 2);
        dueBelief("without signs", new SurpriseSaturday(), 9, 1, 2);
        dueBelief("of signs not looked for", signs("910 190 820"), 0, 1, 2);
        dueBelief("of signs not looked for", signs("910 190 820"), 9, 1, 2);
    }

    static void promise23_seenByTheTenthsNotSeenByTheRest() {
        dueBelief("seen", signs("911"), 0, 9, 10);
        dueBelief("not seen", signs("912"), 0, 1, 10);
        dueBelief("seen, rather without", signs("191"), 0, 1, 10);
        dueBelief("not seen, rather without", signs("192"), 0, 9, 10);
        dueBelief("one of each", signs("821 612 730"), 0, 16, 25);
    }

    static void promise23_aSignThatPartsNothing() {
        for (int takes = 0; takes <= 9; takes++) {
            dueBelief("seen and not seen", signs("551 992 111"), takes, 1, 2);
        }
    }

    static void promise23_eightSigns() {
        dueBelief("all for it", signs("911 911 911 911 192 192 192 192"), 0, 43046721, 43046722);
        dueBelief("all against it", signs("191 191 191 191 912 912 912 912"), 0, 1, 43046722);
        dueBelief("all for it, by a trail", signs("911 911 911 911 192 192 192 192"), 9, 6561, 6562);
    }

    static void promise23_inLowestTerms() {
        dueBelief("6 to 4", signs("641"), 0, 3, 5);
        dueBelief("9 to 3 and 2 to 4", signs("931 241"), 0, 3, 5);
    }

    static void promise23_aTrailGoesOverSeenOnesAlone() {
        for (int takes = 0; takes <= 9; takes++) {
            dueBelief("not seen", signs("822"), takes, 1, 5);
            dueBelief("not looked for", signs("820"), takes, 1, 2);
        }
        dueBelief("the seen one of two", signs("821 822"), 9, 1, 5);
    }

    /** With goes so many tenths of the way to without, rounded towards without. */
    private static int onTrail(int with, int without, int takes) {
        int tenfold = 10 * with + (without - with) * takes;
        return without > with ? -Math.floorDiv(-tenfold, 10) : Math.floorDiv(tenfold, 10);
    }

    static void promise23_theWayIsRoundedTowardsTheOtherTenths() {
        for (int pair = 11; pair <= 99; pair++) {
            int with = pair / 10;
            int without = pair % 10;
            for (int takes = 0; takes <= 9 && without != 0; takes++) {
                int then = onTrail(with, without, takes);
                int by = (int) divisor(then, then + without);
                dueBelief(with + " to " + without, signs(pair + "1"), takes, then / by, (then + without) / by);
            }
        }
    }

    static void promise23_theLeastTrailGoesAStep() {
        dueBelief("9 to 8: 8.9 is 8", signs("981"), 1, 1, 2);
        dueBelief("8 to 9: 8.1 is 9", signs("891"), 1, 1, 2);
        dueBelief("9 to 1: 8.2 is 8", signs("911"), 1, 8, 9);
        dueBelief("1 to 9: 1.8 is 2", signs("191"), 1, 2, 11);
    }

    static void promise23_theWholeTenthsAreNotRounded() {
        dueBelief("7 to 2 by 2: 6", signs("721"), 2, 3, 4);
        dueBelief("2 to 7 by 2: 3", signs("271"), 2, 3, 10);
        dueBelief("6 to 4 by 5: 5", signs("641"), 5, 5, 9);
    }

    static void promise23_aRefusedOneChangesNothing() {
        refused("belief(10, 0)", Edges::full, x -> x.belief(10, 0), OUTSIDE);
        refused("belief(0, 2)", Edges::full, x -> x.belief(0, 2), OUTSIDE);
        changesNothing("belief(9, 1)", Edges::full, x -> x.belief(9, 1));
    }

    // ---- 24 parting

    static void promise24_noneWithoutSigns() {
        due("parting()", new SurpriseSaturday().parting(), NONE);
    }

    static void promise24_noneIfAllWereLookedFor() {
        due("one seen", signs("911").parting(), NONE);
        due("one not seen", signs("912").parting(), NONE);
        due("eight", signs("911 192 821 282 731 372 641 462").parting(), NONE);
        due("the last is left", signs("911 192 821 282 731 372 641 550").parting(), 7);
        due("the first is left", signs("550 192 821 282 731 372 641 462").parting(), 0);
    }

    static void promise24_onlyOfThoseNotLookedFor() {
        due("the best was seen, the others alike", signs("911 640 730").parting(), 1);
        due("the best was not looked for", signs("910 640 730").parting(), 0);
        due("the best was looked for, the others alike", signs("550 640 730 912").parting(), 0);
    }

    static void promise24_theLesserOfBothIsLeastOnTheWhole() {
        due("8 to 2 parts better than 7 to 2", signs("720 820").parting(), 1);
        due("2 to 9 parts better than 8 to 2", signs("820 290").parting(), 1);
        due("a sign that parts nothing", signs("550 540").parting(), 1);
    }

    static void promise24_ofLikeOnesTheLeast() {
        due("7 to 4, 4 to 7, 9 to 6", signs("550 740 470 960").parting(), 1);
        due("all part nothing", signs("330 550 770").parting(), 0);
        due("none parts what is sure", signs("911 911 550 640 730").parting(), 2);
    }

    /** By 7 to 4: 9 to 6 leaves 24 and 7, 4 to 1 leaves 4 and 36; by 3 to 6: 27 and 3, 6 and 18. */
    static void promise24_byWhatSheThinksNow() {
        due("of three alike", signs("410 960 630").parting(), 0);
        due("by 7 to 4", signs("741 960 410 540").parting(), 1);
        due("by 3 to 6", signs("742 960 410 540").parting(), 2);
    }

    /** By 2 to 1 both leave 10; a trail would make it 1 to 1, by which the second leaves 8. */
    static void promise24_withoutATrail() {
        due("by 2 to 1", signs("211 550 640").parting(), 1);
        due("by 1 to 1", signs("111 550 640").parting(), 2);
    }

    static void promise24_sevenLookedForAndOneLeft() {
        due("sure there is one", signs("911 911 911 911 911 911 911 190").parting(), 7);
        due("sure there is none", signs("191 191 191 191 191 191 910 910").parting(), 6);
    }

    static void promise24_itChangesNothing() {
        changesNothing("parting()", Edges::full, x -> x.parting());
        changesNothing("parting()", Edges::middling, x -> x.parting());
    }

    public static void main(String[] args) {
        runAll(SignEdgeTests.class);
    }
}
