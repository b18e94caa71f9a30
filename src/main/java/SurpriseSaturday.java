import java.util.Arrays;

/**
 * A surprise for Saturday: who knows of it from which day on, how likely she from whom it is kept
 * hears of it, and what can be done about that. The document's promises say what each call answers.
 *
 * Every row is made with the object and filled again by the calls, so that no call makes anything.
 */
public final class SurpriseSaturday {
    public static final int NONE = -1, UNKNOWN = -101, OUTSIDE = -102, STATE = -103, FULL = -104;

    private static final int LAST_DAY = 8;
    private static final int SATURDAY = 9;
    private static final int MOST_TO_PLAN_FOR = 4;
    private static final int MOST_BESTS = 40;
    private static final int PLAN_PARTS = 10;
    private static final int MOST_COUCH_MINUTES = 18;

    private final Guests guests;
    private final Word word;
    private final Page page;
    private final Meetings meetings;
    private final Stories stories;
    private final Signs signs;
    private final Image kept;
    /** TOLD DAYS and the word that goes by them, of plans that are only thought of. */
    private final int[] plan;
    private final Word planned;
    private int listsRead;
    private int bestsDone;

    public SurpriseSaturday() {
        guests = new Guests();
        word = new Word();
        page = new Page();
        meetings = new Meetings();
        stories = new Stories();
        signs = new Signs();
        kept = new Image();
        plan = new int[Guests.MOST];
        planned = new Word();
        listsRead = 0;
        bestsDone = 0;
    }

    // ---- guests

    public int guest(int kind, int by) {
        if (!Guests.isKind(kind) || !Guests.suits(kind, by)) {
            return OUTSIDE;
        }
        return guests.add(kind, by);
    }

    public int about(int guest, int what) {
        if (!guests.has(guest)) {
            return UNKNOWN;
        }
        switch (what) {
            case 0:
                return guests.kindOf(guest);
            case 1:
                return guests.byOf(guest);
            case 2:
                return guests.toldOf(guest);
            case 3:
                return word.since(guest);
            default:
                return OUTSIDE;
        }
    }

    public int as(int guest, int kind) {
        if (!guests.has(guest)) {
            return UNKNOWN;
        }
        if (!Guests.isKind(kind)) {
            return OUTSIDE;
        }
        return guests.isA(guest, kind) ? guest : NONE;
    }

    public int sees(int a, int b, int day, boolean is) {
        if (!guests.has(a) || !guests.has(b) || a == b) {
            return UNKNOWN;
        }
        if (!isDay(day)) {
            return OUTSIDE;
        }
        int was = bit(guests.seenBy(a, day), b);
        guests.putSeen(a, b, day, is);
        guests.putSeen(b, a, day, is);
        followWord();
        return was;
    }

    public int tell(int guest, int day) {
        if (!guests.has(guest)) {
            return UNKNOWN;
        }
        if (day != 0 && !isDay(day)) {
            return OUTSIDE;
        }
        int was = guests.toldOf(guest);
        guests.putTold(guest, day);
        followWord();
        return was;
    }

    // ---- the list

    public int letters(long w) {
        int more = Page.lettersIn(w);
        if (more == NONE) {
            return OUTSIDE;
        }
        if (page.size() + more > Page.MOST) {
            return FULL;
        }
        page.append(w, more);
        return page.size();
    }

    public int blank() {
        int had = page.size();
        page.clear();
        return had;
    }

    public int fault() {
        return page.firstWrong(guests.size());
    }

    public int list() {
        if (!page.isList(guests.size())) {
            return STATE;
        }
        meetings.clear();
        for (int place = 0; place < page.size(); place += Page.STEP) {
            int guest = page.digitAt(place);
            int tenths = page.digitAt(place + 2);
            int slip = guests.isSoftSpoken(guest) ? tenths / 2 : tenths;
            meetings.add(guest, page.digitAt(place + 1), tenths, slip);
        }
        page.clear();
        listsRead++;
        return meetings.size();
    }

    public int meeting(int meeting, int what) {
        if (!meetings.has(meeting)) {
            return UNKNOWN;
        }
        switch (what) {
            case 0:
                return meetings.guestOf(meeting);
            case 1:
                return meetings.dayOf(meeting);
            case 2:
                return meetings.tenthsOf(meeting);
            case 3:
                return meetings.slipOf(meeting, word);
            default:
                return OUTSIDE;
        }
    }

    // ---- what she knows

    public long known(int part) {
        if (!isPart(part)) {
            return OUTSIDE;
        }
        return knownPart(meetings.silentWays(word), part);
    }

    public long whose(int guest, int part) {
        if (!guests.has(guest)) {
            return UNKNOWN;
        }
        if (!isPart(part)) {
            return OUTSIDE;
        }
        long ways = meetings.allWays() - meetings.silentWays(word);
        if (ways == 0) {
            return NONE;
        }
        return lowest(meetings.firstSlipWays(guest, word), ways, part);
    }

    public int right() {
        for (int guest = 0; guest < guests.size(); guest++) {
            if (guests.isA(guest, Guests.NEEDED) && !word.knows(guest, guests.byOf(guest))) {
                return 0;
            }
        }
        return 1;
    }

    public long best(int what) {
        boolean ofGuest = what >= PLAN_PARTS && what < PLAN_PARTS + Guests.MOST;
        if (!isPart(what) && !ofGuest) {
            return OUTSIDE;
        }
        if (guests.howMany(Guests.NEEDED) > MOST_TO_PLAN_FOR || bestsDone >= MOST_BESTS) {
            return STATE;
        }
        bestsDone++;
        planBest();
        if (ofGuest) {
            int guest = what - PLAN_PARTS;
            return guests.has(guest) ? plan[guest] : NONE;
        }
        return knownPart(planWays(), what);
    }

    public int hole() {
        long most = meetings.silentWays(word);
        int found = NONE;
        for (int guest = 0; guest < guests.size(); guest++) {
            if (guests.toldOf(guest) != 0) {
                guests.copyTold(plan);
                plan[guest] = 0;
                long ways = planWays();
                if (ways > most) {
                    most = ways;
                    found = guest;
                }
            }
        }
        return found;
    }

    public int latest(int guest) {
        if (!guests.has(guest)) {
            return UNKNOWN;
        }
        for (int first = LAST_DAY; first >= 1; first--) {
            int know = 1;
            for (int day = first; day <= LAST_DAY; day++) {
                know |= guests.seenByAny(know, day);
            }
            if (bit(know, guest) == 1) {
                return first;
            }
        }
        return NONE;
    }

    // ---- stories

    public int story(int set) {
        if (!Stories.isSet(set)) {
            return OUTSIDE;
        }
        return stories.add(set);
    }

    public int clash(int a, int b, boolean is) {
        if (!stories.has(a) || !stories.has(b) || a == b) {
            return UNKNOWN;
        }
        int was = bit(stories.clashesOf(a), b);
        stories.putClash(a, b, is);
        stories.putClash(b, a, is);
        return was;
    }

    public int cover(int what) {
        if (what != 0 && what != 1) {
            return OUTSIDE;
        }
        int bits = stories.fewestFor(word.on(SATURDAY));
        if (bits == NONE) {
            return NONE;
        }
        return what == 0 ? Integer.bitCount(bits) : bits;
    }

    // ---- signs

    public int sign(int with, int without) {
        if (!isTenths(with) || !isTenths(without)) {
            return OUTSIDE;
        }
        return signs.add(with, without);
    }

    public int look(int sign, int how) {
        if (!signs.has(sign)) {
            return UNKNOWN;
        }
        if (!Signs.isHow(how)) {
            return OUTSIDE;
        }
        int was = signs.howOf(sign);
        signs.putHow(sign, how);
        return was;
    }

    public long belief(int takes, int part) {
        if (takes < 0 || takes > 9 || !isPart(part)) {
            return OUTSIDE;
        }
        long is = signs.oddsIfThereIsOne(takes);
        return lowest(is, is + signs.oddsIfThereIsNone(), part);
    }

    public int parting() {
        return signs.bestParting();
    }

    // ---- saturday

    public long quiet(int guests, int tenths, int minutes, int part) {
        if (guests < 1 || guests > Guests.MOST || tenths < 0 || tenths > 9 || !isPart(part)) {
            return OUTSIDE;
        }
        // minutes first alone: guests by minutes may wrap round
        if (minutes < 1 || minutes > MOST_COUCH_MINUTES || guests * minutes > MOST_COUCH_MINUTES) {
            return OUTSIDE;
        }
        return lowest(power(10 - tenths, guests * minutes), power(10, guests * minutes), part);
    }

    public int weeks(int seed, int what) {
        if (seed < 0 || what < 0 || what > 2) {
            return OUTSIDE;
        }
        int now = seed;
        int slipped = NONE;
        for (int at = 0; at < meetings.size() && slipped == NONE; at++) {
            // who KNOWS draws even where half of its TENTHS is none
            if (meetings.isOfKnowing(at, word)) {
                now = nextSeed(now);
                if (drawOf(now) < meetings.slipOf(at, word)) {
                    slipped = at;
                }
            }
        }
        if (what == 2) {
            return now;
        }
        return what == 0 || slipped == NONE ? slipped : meetings.guestOf(slipped);
    }

    // ---- what is told of all

    public int image() {
        kept.keep(guests, signs);
        return word.howManyOn(SATURDAY);
    }

    public int restore() {
        if (!kept.fits(guests, signs)) {
            return STATE;
        }
        kept.giveBack(guests, signs);
        followWord();
        return word.howManyOn(SATURDAY);
    }

    public int count(int what) {
        switch (what) {
            case 0:
                return guests.size();
            case 1:
                return meetings.size();
            case 2:
                return stories.size();
            case 3:
                return signs.size();
            case 4:
                return word.howManyOn(SATURDAY);
            case 5:
                return page.size();
            case 6:
                return listsRead;
            case 7:
                return bestsDone;
            default:
                return OUTSIDE;
        }
    }

    public long digest() {
        long h = mixMeetings(mixGuests(613));
        h = mix(mix(h, known(0)), known(1));
        h = mix(mix(h, right()), hole());
        h = mix(mix(h, cover(0)), cover(1));
        h = mixSigns(h);
        h = mix(mix(h, belief(0, 0)), belief(0, 1));
        h = mixLetters(mix(h, parting()));
        for (int what = 0; what <= 7; what++) {
            h = mix(h, count(what));
        }
        return h;
    }

    private long mixGuests(long before) {
        long h = before;
        for (int guest = 0; guest < guests.size(); guest++) {
            for (int what = 0; what <= 3; what++) {
                h = mix(h, about(guest, what));
            }
            h = mix(h, latest(guest));
        }
        return h;
    }

    private long mixMeetings(long before) {
        long h = before;
        for (int at = 0; at < meetings.size(); at++) {
            for (int what = 0; what <= 3; what++) {
                h = mix(h, meeting(at, what));
            }
        }
        return h;
    }

    private long mixSigns(long before) {
        long h = before;
        for (int at = 0; at < signs.size(); at++) {
            h = mix(mix(mix(h, signs.withOf(at)), signs.withoutOf(at)), signs.howOf(at));
        }
        return h;
    }

    private long mixLetters(long before) {
        long h = before;
        for (int place = 0; place < page.size(); place++) {
            h = mix(h, page.codeAt(place));
        }
        return h;
    }

    private static long mix(long h, long number) {
        return 31 * h + number;
    }

    private void followWord() {
        guests.copyTold(plan);
        word.follow(guests, plan);
    }

    /** No NEEDED one is an AUNT, so none changes what the others slip: each finds its DAY alone. */
    private void planBest() {
        Arrays.fill(plan, 0);
        for (int guest = 0; guest < guests.size(); guest++) {
            if (guests.isA(guest, Guests.NEEDED)) {
                plan[guest] = bestDayFor(guest);
            }
        }
    }

    private int bestDayFor(int guest) {
        if (!guests.has(guest)) {
            return 0;
        }
        long most = 0;
        int found = 0;
        for (int day = 1; day <= guests.byOf(guest); day++) {
            plan[guest] = day;
            long ways = planWays();
            if (ways > most) {
                most = ways;
                found = day;
            }
        }
        return found;
    }

    private long planWays() {
        planned.follow(guests, plan);
        return meetings.silentWays(planned);
    }

    private long knownPart(long silentWays, int part) {
        long all = meetings.allWays();
        return lowest(all - silentWays, all, part);
    }

    private static boolean isDay(int day) {
        return day >= 1 && day <= LAST_DAY;
    }

    private static boolean isTenths(int tenths) {
        return tenths >= 1 && tenths <= 9;
    }

    private static boolean isPart(int part) {
        return part == 0 || part == 1;
    }

    private static int bit(int bits, int place) {
        return (bits >> place) & 1;
    }

    private static int withBit(int bits, int place, boolean is) {
        return is ? bits | (1 << place) : bits & ~(1 << place);
    }

    private static long power(int base, int times) {
        long product = 1;
        for (int i = 0; i < times; i++) {
            product *= base;
        }
        return product;
    }

    private static long lowest(long above, long below, int part) {
        long by = commonDivisor(above, below);
        if (by == 0) {
            return NONE;
        }
        return part == 0 ? above / by : below / by;
    }

    private static long commonDivisor(long a, long b) {
        long greater = a;
        long lesser = b;
        // two longs take fewer than a hundred steps
        for (int step = 0; step < 100 && lesser != 0; step++) {
            long rest = greater % lesser;
            greater = lesser;
            lesser = rest;
        }
        return greater;
    }

    private static int nextSeed(int seed) {
        return (int) ((1103515245L * seed + 12345L) & 0x7fffffffL);
    }

    private static int drawOf(int seed) {
        return seed / 65536 % 10;
    }

    /** The GUESTS, whom each SEES on which DAY, and on which DAY each is TOLD. */
    private static final class Guests {
        static final int MOST = 9;
        static final int ANY = 0;
        static final int AUNT = 1;
        static final int NEEDED = 2;
        static final int QUIET = 3;
        static final int HOST = 4;

        private final int[] kinds = new int[MOST];
        private final int[] bys = new int[MOST];
        private final int[] told = new int[MOST];
        /** A row a DAY; of each GUEST the others whom it SEES, as bits. */
        private final int[] seen = new int[LAST_DAY * MOST];
        private int aunts = 0;
        private int size = 0;

        static boolean isKind(int kind) {
            return kind >= ANY && kind <= HOST;
        }

        static boolean suits(int kind, int by) {
            return kind == NEEDED || kind == HOST ? isDay(by) : by == 0;
        }

        int size() {
            return size;
        }

        boolean has(int guest) {
            return guest >= 0 && guest < size;
        }

        int add(int kind, int by) {
            if (size >= MOST) {
                return FULL;
            }
            kinds[size] = kind;
            bys[size] = by;
            aunts = withBit(aunts, size, kind == AUNT);
            size++;
            return size - 1;
        }

        int kindOf(int guest) {
            return has(guest) ? kinds[guest] : NONE;
        }

        int byOf(int guest) {
            return has(guest) ? bys[guest] : 0;
        }

        int toldOf(int guest) {
            return has(guest) ? told[guest] : 0;
        }

        int aunts() {
            return aunts;
        }

        boolean isA(int guest, int kind) {
            int own = kindOf(guest);
            return own != NONE && (kind == ANY || kind == own || (kind == NEEDED && own == HOST));
        }

        boolean isSoftSpoken(int guest) {
            return isA(guest, QUIET) || isA(guest, HOST);
        }

        int howMany(int kind) {
            int many = 0;
            for (int guest = 0; guest < size; guest++) {
                if (isA(guest, kind)) {
                    many++;
                }
            }
            return many;
        }

        void putTold(int guest, int day) {
            if (has(guest)) {
                told[guest] = day;
            }
        }

        void copyTold(int[] into) {
            for (int guest = 0; guest < MOST && guest < into.length; guest++) {
                into[guest] = told[guest];
            }
        }

        int seenBy(int guest, int day) {
            return has(guest) && isDay(day) ? seen[(day - 1) * MOST + guest] : 0;
        }

        void putSeen(int guest, int other, int day, boolean is) {
            if (has(guest) && has(other) && isDay(day)) {
                seen[(day - 1) * MOST + guest] = withBit(seenBy(guest, day), other, is);
            }
        }

        int seenByAny(int tellers, int day) {
            if (!isDay(day)) {
                return 0;
            }
            int row = (day - 1) * MOST;
            int all = 0;
            for (int guest = 0; guest < size; guest++) {
                if (bit(tellers, guest) == 1) {
                    all |= seen[row + guest];
                }
            }
            return all;
        }
    }

    /** Who KNOWS on which DAY, as bits, by a plan of TOLD DAYS. */
    private static final class Word {
        private final int[] knowing = new int[SATURDAY + 1];

        void follow(Guests guests, int[] told) {
            int know = 0;
            for (int day = 1; day <= LAST_DAY; day++) {
                for (int guest = 0; guest < guests.size() && guest < told.length; guest++) {
                    if (told[guest] == day) {
                        know = withBit(know, guest, true);
                    }
                }
                knowing[day] = know;
                know |= guests.seenByAny(know & guests.aunts(), day);
            }
            knowing[SATURDAY] = know;
        }

        int on(int day) {
            return day >= 1 && day <= SATURDAY ? knowing[day] : 0;
        }

        boolean knows(int guest, int day) {
            return day >= 1 && day <= SATURDAY && (knowing[day] >> guest & 1) == 1;
        }

        int since(int guest) {
            for (int day = 1; day <= SATURDAY; day++) {
                if (knows(guest, day)) {
                    return day;
                }
            }
            return NONE;
        }

        int howManyOn(int day) {
            return Integer.bitCount(on(day));
        }
    }

    /** THE PAGE: letters that may become THE LIST. */
    private static final class Page {
        static final int MOST = 60;
        static final int STEP = 4;
        /** Three digits a MEETING, and a comma between each two. */
        private static final int LONGEST_LIST = Meetings.MOST * STEP - 1;
        private static final int MOST_AT_ONCE = 8;

        private final int[] codes = new int[MOST];
        private int size = 0;

        /** NONE: they are not as told. */
        static int lettersIn(long w) {
            int many = 0;
            boolean ended = false;
            for (int i = 0; i < MOST_AT_ONCE; i++) {
                int code = codeIn(w, i);
                if (code > 126 || (ended && code != 0)) {
                    return NONE;
                }
                if (code == 0) {
                    ended = true;
                } else {
                    many++;
                }
            }
            return many;
        }

        private static int codeIn(long w, int i) {
            return (int) ((w >>> (8 * i)) & 255L);
        }

        int size() {
            return size;
        }

        void clear() {
            size = 0;
        }

        void append(long w, int many) {
            for (int i = 0; i < many && size < MOST; i++) {
                codes[size] = codeIn(w, i);
                size++;
            }
        }

        int codeAt(int place) {
            return place >= 0 && place < size ? codes[place] : 0;
        }

        int digitAt(int place) {
            return codeAt(place) - '0';
        }

        int firstWrong(int guests) {
            for (int place = 0; place < size; place++) {
                if (!fits(place, guests)) {
                    return place;
                }
            }
            return size;
        }

        boolean isList(int guests) {
            return size % STEP == STEP - 1 && firstWrong(guests) == size;
        }

        private boolean fits(int place, int guests) {
            int digit = digitAt(place);
            if (place >= LONGEST_LIST) {
                return false;
            }
            switch (place % STEP) {
                case 0:
                    return digit >= 0 && digit < guests;
                case 1:
                    return isDay(digit);
                case 2:
                    return isTenths(digit);
                default:
                    return codeAt(place) == ',';
            }
        }
    }

    /** THE LIST, by DAY. Ways are counted in tenths of tenths ..: ten for each MEETING. */
    private static final class Meetings {
        static final int MOST = 15;

        private final int[] guestAt = new int[MOST];
        private final int[] dayAt = new int[MOST];
        private final int[] tenthsAt = new int[MOST];
        /** TENTHS by which a word SLIPS of who KNOWS; no GUEST ever changes its KIND. */
        private final int[] slipAt = new int[MOST];
        private int size = 0;

        int size() {
            return size;
        }

        boolean has(int meeting) {
            return meeting >= 0 && meeting < size;
        }

        void clear() {
            size = 0;
        }

        void add(int guest, int day, int tenths, int slip) {
            if (size >= MOST) {
                return;
            }
            int at = size;
            while (at > 0 && dayAt[at - 1] > day) {
                guestAt[at] = guestAt[at - 1];
                dayAt[at] = dayAt[at - 1];
                tenthsAt[at] = tenthsAt[at - 1];
                slipAt[at] = slipAt[at - 1];
                at--;
            }
            guestAt[at] = guest;
            dayAt[at] = day;
            tenthsAt[at] = tenths;
            slipAt[at] = slip;
            size++;
        }

        int guestOf(int meeting) {
            return has(meeting) ? guestAt[meeting] : NONE;
        }

        int dayOf(int meeting) {
            return has(meeting) ? dayAt[meeting] : 0;
        }

        int tenthsOf(int meeting) {
            return has(meeting) ? tenthsAt[meeting] : 0;
        }

        boolean isOfKnowing(int meeting, Word word) {
            return has(meeting) && word.knows(guestAt[meeting], dayAt[meeting]);
        }

        int slipOf(int meeting, Word word) {
            if (!has(meeting) || !word.knows(guestAt[meeting], dayAt[meeting])) {
                return 0;
            }
            return slipAt[meeting];
        }

        long allWays() {
            return power(10, size);
        }

        long silentWays(Word word) {
            long ways = 1;
            for (int at = 0; at < size; at++) {
                ways *= 10 - slipOf(at, word);
            }
            return ways;
        }

        long firstSlipWays(int guest, Word word) {
            long silent = 1;
            long slipped = 0;
            for (int at = 0; at < size; at++) {
                int slip = slipOf(at, word);
                slipped *= 10;
                if (guestAt[at] == guest) {
                    slipped += silent * slip;
                }
                silent *= 10 - slip;
            }
            return slipped;
        }
    }

    /** The STORIES: who can tell each, and which of them CLASH. */
    private static final class Stories {
        static final int MOST = 8;

        private final int[] sets = new int[MOST];
        private final int[] clashes = new int[MOST];
        private int size = 0;

        static boolean isSet(int set) {
            return set >= 0 && set < 1 << Guests.MOST;
        }

        int size() {
            return size;
        }

        boolean has(int story) {
            return story >= 0 && story < size;
        }

        int add(int set) {
            if (size >= MOST) {
                return FULL;
            }
            sets[size] = set;
            size++;
            return size - 1;
        }

        int clashesOf(int story) {
            return has(story) ? clashes[story] : 0;
        }

        void putClash(int story, int other, boolean is) {
            if (has(story) && has(other)) {
                clashes[story] = withBit(clashes[story], other, is);
            }
        }

        /** As bits; NONE: there are none such. */
        int fewestFor(int knowing) {
            int fewest = MOST + 1;
            int found = NONE;
            for (int bits = 0; bits < 1 << size; bits++) {
                int many = Integer.bitCount(bits);
                if (many < fewest && canBeToldBy(bits, knowing)) {
                    fewest = many;
                    found = bits;
                }
            }
            return found;
        }

        private boolean canBeToldBy(int bits, int knowing) {
            int tellers = 0;
            for (int at = 0; at < size; at++) {
                if (bit(bits, at) == 1) {
                    if ((clashes[at] & bits) != 0) {
                        return false;
                    }
                    tellers |= sets[at];
                }
            }
            return (tellers & knowing) == knowing;
        }
    }

    /** The SIGNS, and what SHE THINKS by them: odds are products of tenths. */
    private static final class Signs {
        static final int MOST = 8;
        private static final int NOT_LOOKED_FOR = 0;
        private static final int SEEN = 1;
        private static final int NOT_SEEN = 2;

        private final int[] with = new int[MOST];
        private final int[] without = new int[MOST];
        private final int[] how = new int[MOST];
        private int size = 0;

        static boolean isHow(int how) {
            return how >= NOT_LOOKED_FOR && how <= NOT_SEEN;
        }

        int size() {
            return size;
        }

        boolean has(int sign) {
            return sign >= 0 && sign < size;
        }

        int add(int tenthsWith, int tenthsWithout) {
            if (size >= MOST) {
                return FULL;
            }
            with[size] = tenthsWith;
            without[size] = tenthsWithout;
            size++;
            return size - 1;
        }

        int withOf(int sign) {
            return has(sign) ? with[sign] : 0;
        }

        int withoutOf(int sign) {
            return has(sign) ? without[sign] : 0;
        }

        int howOf(int sign) {
            return has(sign) ? how[sign] : NOT_LOOKED_FOR;
        }

        void putHow(int sign, int now) {
            if (has(sign)) {
                how[sign] = now;
            }
        }

        long oddsIfThereIsOne(int takes) {
            long odds = 1;
            for (int at = 0; at < size; at++) {
                if (how[at] == SEEN) {
                    odds *= onTrail(with[at], without[at], takes);
                } else if (how[at] == NOT_SEEN) {
                    odds *= 10 - with[at];
                }
            }
            return odds;
        }

        long oddsIfThereIsNone() {
            long odds = 1;
            for (int at = 0; at < size; at++) {
                if (how[at] == SEEN) {
                    odds *= without[at];
                } else if (how[at] == NOT_SEEN) {
                    odds *= 10 - without[at];
                }
            }
            return odds;
        }

        /** Rounded towards the other TENTHS: the way that is gone is rounded up. */
        private static int onTrail(int from, int to, int takes) {
            int gone = (Math.abs(to - from) * takes + 9) / 10;
            return from < to ? from + gone : from - gone;
        }

        int bestParting() {
            long is = oddsIfThereIsOne(0);
            long isNot = oddsIfThereIsNone();
            long least = 0;
            int found = NONE;
            for (int at = 0; at < size; at++) {
                if (how[at] == NOT_LOOKED_FOR) {
                    long lesser = Math.min(is * with[at], isNot * without[at])
                            + Math.min(is * (10 - with[at]), isNot * (10 - without[at]));
                    if (found == NONE || lesser < least) {
                        least = lesser;
                        found = at;
                    }
                }
            }
            return found;
        }
    }

    /** What image() keeps for restore(). */
    private static final class Image {
        private final int[] told = new int[Guests.MOST];
        private final int[] seen = new int[LAST_DAY * Guests.MOST];
        private final int[] how = new int[Signs.MOST];
        private int guestsThen = NONE;
        private int signsThen = NONE;

        void keep(Guests guests, Signs signs) {
            System.arraycopy(guests.told, 0, told, 0, told.length);
            System.arraycopy(guests.seen, 0, seen, 0, seen.length);
            System.arraycopy(signs.how, 0, how, 0, how.length);
            guestsThen = guests.size();
            signsThen = signs.size();
        }

        /** False as well while nothing is kept: no size is NONE. */
        boolean fits(Guests guests, Signs signs) {
            return guestsThen == guests.size() && signsThen == signs.size();
        }

        void giveBack(Guests guests, Signs signs) {
            System.arraycopy(told, 0, guests.told, 0, told.length);
            System.arraycopy(seen, 0, guests.seen, 0, seen.length);
            System.arraycopy(how, 0, signs.how, 0, how.length);
        }
    }
}
