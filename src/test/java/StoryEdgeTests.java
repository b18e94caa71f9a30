/** Promises 18 to 20 at their edges: one test for each sentence that names one. */
public final class StoryEdgeTests extends Edges {
    private static SurpriseSaturday stories(SurpriseSaturday x, int... sets) {
        for (int set : sets) {
            x.story(set);
        }
        return x;
    }

    private static void dueCover(String when, SurpriseSaturday x, int many, int bits) {
        due("cover(0) " + when, x.cover(0), many);
        due("cover(1) " + when, x.cover(1), bits);
    }

    // ---- 18 story

    static void promise18_bits0To8() {
        SurpriseSaturday x = nine();
        for (int set : new int[] {LOW, -1, 512, 513, 1024, HIGH}) {
            due("story(" + set + ")", x.story(set), OUTSIDE);
        }
        due("story(0)", x.story(0), 0);
        due("story(511)", x.story(511), 1);
        due("story(256)", x.story(256), 2);
        due("count(2)", x.count(2), 3);
    }

    static void promise18_eightAtMostNumberedFrom0() {
        SurpriseSaturday x = new SurpriseSaturday();
        for (int number = 0; number < 8; number++) {
            due("story(1)", x.story(1), number);
            due("count(2)", x.count(2), number + 1);
        }
        due("the ninth", x.story(1), FULL);
        due("count(2)", x.count(2), 8);
    }

    static void promise18_outsideAheadOfFull() {
        due("story(512)", full().story(512), OUTSIDE);
        due("story(-1)", full().story(-1), OUTSIDE);
    }

    static void promise18_guestsWhoAreNotThereYet() {
        SurpriseSaturday x = new SurpriseSaturday();
        due("story(511) of nobody", x.story(511), 0);
        x.guest(0, 0);
        x.tell(0, 1);
        dueCover("of the first guest", x, 1, 1);
    }

    static void promise18_guestsWhoNeverComeAreNotUnknown() {
        SurpriseSaturday x = tell(party("G A"), "11");
        due("story of the ninth", x.story(256), 0);
        due("story of the third and the ninth", x.story(260), 1);
        dueCover("by those alone", x, NONE, NONE);
        due("story of the first and others", x.story(509), 2);
        due("story of the second and others", x.story(510), 3);
        dueCover("by each its own", x, 2, 12);
    }

    static void promise18_aRefusedOneChangesNothing() {
        refused("story(512)", Edges::middling, x -> x.story(512), OUTSIDE);
        refused("story(-1)", Edges::middling, x -> x.story(-1), OUTSIDE);
        refused("story(3) at eight", Edges::full, x -> x.story(3), FULL);
    }

    // ---- 19 clash

    static void promise19_aAndBAreThere() {
        SurpriseSaturday x = stories(some(), 1, 2, 4);
        for (int story : new int[] {LOW, -1, 3, 8, HIGH}) {
            due("clash(" + story + ", 0)", x.clash(story, 0, true), UNKNOWN);
            due("clash(0, " + story + ")", x.clash(0, story, true), UNKNOWN);
        }
        due("clash(0, 2)", x.clash(0, 2, true), 0);
        due("clash(8, 0) of eight", full().clash(8, 0, true), UNKNOWN);
        due("clash(7, 2) of eight", full().clash(7, 2, true), 1);
    }

    static void promise19_theyAreNotTheSame() {
        SurpriseSaturday x = stories(some(), 1, 2, 4);
        for (int story = 0; story < 3; story++) {
            due("clash(" + story + ", " + story + ", true)", x.clash(story, story, true), UNKNOWN);
            due("clash(" + story + ", " + story + ", false)", x.clash(story, story, false), UNKNOWN);
        }
        tell(x, "1");
        dueCover("with each of them", x, 1, 1);
    }

    static void promise19_whetherTheyDid() {
        SurpriseSaturday x = stories(some(), 1, 2);
        due("not at first", x.clash(0, 1, false), 0);
        due("still not", x.clash(0, 1, true), 0);
        due("they do", x.clash(0, 1, true), 1);
        due("they still do", x.clash(0, 1, false), 1);
        due("no more", x.clash(0, 1, false), 0);
    }

    static void promise19_eitherWay() {
        SurpriseSaturday x = stories(some(), 1, 2);
        x.clash(0, 1, true);
        due("clash(1, 0)", x.clash(1, 0, false), 1);
        due("clash(0, 1)", x.clash(0, 1, true), 0);
        due("clash(1, 0) again", x.clash(1, 0, true), 1);
    }

    static void promise19_eachPairAlone() {
        SurpriseSaturday x = stories(some(), 1, 2, 3, 4, 5, 6, 7, 8);
        for (int pair = 0; pair < 64; pair++) {
            if (pair / 8 < pair % 8 && pair % 3 == 0) {
                x.clash(pair / 8, pair % 8, true);
            }
        }
        for (int pair = 0; pair < 64; pair++) {
            if (pair / 8 < pair % 8) {
                due("pair " + pair, x.clash(pair % 8, pair / 8, false), pair % 3 == 0 ? 1 : 0);
            }
        }
    }

    static void promise19_aRefusedOneChangesNothing() {
        refused("clash(8, 0)", Edges::full, x -> x.clash(8, 0, true), UNKNOWN);
        refused("clash(0, -1)", Edges::full, x -> x.clash(0, -1, false), UNKNOWN);
        refused("clash(1, 1)", Edges::full, x -> x.clash(1, 1, true), UNKNOWN);
    }

    // ---- 20 cover

    static void promise20_whatIs0And1() {
        for (int what : new int[] {LOW, -1, 2, HIGH}) {
            due("cover(" + what + ")", stories(tell(some(), "1"), 1).cover(what), OUTSIDE);
        }
    }

    static void promise20_outsideAheadOfNone() {
        due("cover(0)", tell(some(), "1").cover(0), NONE);
        due("cover(2)", tell(some(), "1").cover(2), OUTSIDE);
        due("cover(-1)", tell(some(), "1").cover(-1), OUTSIDE);
    }

    static void promise20_nobodyWhoKnowsNeedsNone() {
        dueCover("of nobody", new SurpriseSaturday(), 0, 0);
        dueCover("while nobody knows", stories(some(), 31, 31), 0, 0);
    }

    static void promise20_noneIfOneCanTellNone() {
        dueCover("without stories", tell(some(), "1"), NONE, NONE);
        dueCover("with those of others", stories(tell(some(), "1"), 30, 0), NONE, NONE);
        dueCover("of one of two", stories(tell(some(), "10001"), 1), NONE, NONE);
    }

    static void promise20_noneIfTheyClash() {
        SurpriseSaturday x = stories(tell(some(), "11"), 1, 2);
        dueCover("of two", x, 2, 3);
        x.clash(1, 0, true);
        dueCover("of two that clash", x, NONE, NONE);
        x.clash(0, 1, false);
        dueCover("of two that clash no more", x, 2, 3);
    }

    static void promise20_whoKnowsOnSaturday() {
        SurpriseSaturday x = stories(some(), 2, 1);
        x.tell(1, 8);
        dueCover("told on 8", x, 1, 1);
        x.sees(1, 0, 8, true);
        dueCover("heard on 8", x, 2, 3);
        x.sees(1, 0, 8, false);
        x.sees(1, 0, 7, true);
        dueCover("seen too early", x, 1, 1);
    }

    static void promise20_theFewestAheadOfTheLeastBits() {
        SurpriseSaturday x = stories(tell(some(), "11111"), 1, 2, 4, 8, 16);
        dueCover("one each", x, 5, 31);
        x.story(28);
        dueCover("one for three", x, 3, 35);
        x.story(3);
        dueCover("one for two", x, 2, 96);
        x.story(31);
        dueCover("one for all, of the greatest bits", x, 1, 128);
    }

    static void promise20_ofLikeOnesOfLeastBits() {
        SurpriseSaturday x = stories(tell(some(), "1111"), 3, 6, 9, 12, 15, 15);
        dueCover("of two alike the least", x, 1, 16);
        x.clash(4, 5, true);
        dueCover("whatever they clash with", x, 1, 16);
        SurpriseSaturday pairs = stories(tell(some(), "1111"), 3, 6, 9, 12);
        dueCover("1 and 2, or 0 and 3", pairs, 2, 6);
        pairs.clash(1, 2, true);
        dueCover("0 and 3", pairs, 2, 9);
        pairs.clash(0, 3, true);
        dueCover("neither, and no three", pairs, NONE, NONE);
    }

    static void promise20_noTwoOfThemClash() {
        SurpriseSaturday x = stories(tell(some(), "111"), 1, 2, 4);
        dueCover("three", x, 3, 7);
        for (int pair = 0; pair < 3; pair++) {
            x.clash(pair, (pair + 1) % 3, true);
            dueCover("a clash of two", x, NONE, NONE);
            x.clash((pair + 1) % 3, pair, false);
        }
        dueCover("three again", x, 3, 7);
    }

    static void promise20_eightStoriesNineGuests() {
        SurpriseSaturday x = stories(tell(nine(), "111111111"), 1, 2, 4, 8, 16, 32, 64, 128);
        dueCover("none for the ninth guest", x, NONE, NONE);
        SurpriseSaturday y = stories(tell(nine(), "111111111"), 1, 2, 4, 8, 16, 32, 64, 384);
        dueCover("all eight", y, 8, 255);
        y.clash(0, 7, true);
        dueCover("the first and the last clash", y, NONE, NONE);
        y.tell(0, 0);
        dueCover("the first is not there", y, 7, 254);
    }

    static void promise20_aRefusedOneChangesNothing() {
        refused("cover(2)", Edges::full, x -> x.cover(2), OUTSIDE);
        changesNothing("cover(1)", Edges::full, x -> x.cover(1));
        changesNothing("cover(0)", Edges::middling, x -> x.cover(0));
    }

    public static void main(String[] args) {
        runAll(StoryEdgeTests.class);
    }
}
