import java.math.BigInteger;
import java.util.ArrayList;
import java.util.Arrays;
import java.util.List;
import java.util.Random;
import java.util.TreeMap;
import java.util.regex.Matcher;
import java.util.regex.Pattern;

/**
 * Long runs of calls by fixed seeds, each answer beside that of a slow model which is written
 * from the document by other means: all plans, all ways of slipping, a pattern for THE LIST.
 */
public final class OracleTests {
    private static final int RUNS = 400;
    /** What an object answers behind these is free. */
    private static final int CALLS = 512;
    /** A LIST that is written and read, and the digest at the end. */
    private static final int MOST_AT_ONCE = 12;

    private static int wrong = 0;

    /** A fraction of whole numbers of any size, in lowest terms. */
    private record Ratio(BigInteger above, BigInteger below) implements Comparable<Ratio> {
        static final Ratio ZERO = of(0, 1);
        static final Ratio ONE = of(1, 1);

        static Ratio of(long above, long below) {
            return lowest(BigInteger.valueOf(above), BigInteger.valueOf(below));
        }

        static Ratio lowest(BigInteger above, BigInteger below) {
            BigInteger by = above.gcd(below);
            return new Ratio(above.divide(by), below.divide(by));
        }

        Ratio plus(Ratio o) {
            return lowest(above.multiply(o.below).add(o.above.multiply(below)), below.multiply(o.below));
        }

        Ratio minus(Ratio o) {
            return lowest(above.multiply(o.below).subtract(o.above.multiply(below)), below.multiply(o.below));
        }

        Ratio times(Ratio o) {
            return lowest(above.multiply(o.above), below.multiply(o.below));
        }

        Ratio by(Ratio o) {
            return lowest(above.multiply(o.below), below.multiply(o.above));
        }

        Ratio lesser(Ratio o) {
            return compareTo(o) <= 0 ? this : o;
        }

        @Override
        public int compareTo(Ratio o) {
            return above.multiply(o.below).compareTo(o.above.multiply(below));
        }

        long part(int part) {
            return (part == 0 ? above : below).longValueExact();
        }
    }

    private static final class Model {
        static final int NEVER = 99;
        final List<int[]> guests = new ArrayList<>();
        List<Integer> told = new ArrayList<>();
        boolean[][][] sees = new boolean[9][9][9];
        String page = "";
        List<int[]> meetings = new ArrayList<>();
        final List<Integer> stories = new ArrayList<>();
        final boolean[][] clashes = new boolean[8][8];
        final List<int[]> signs = new ArrayList<>();
        List<Integer> looks = new ArrayList<>();
        List<Integer> keptTold;
        boolean[][][] keptSees;
        List<Integer> keptLooks;
        int lists = 0;
        int bests = 0;

        boolean isGuest(int g) {
            return g >= 0 && g < guests.size();
        }

        boolean isNeeded(int g) {
            return guests.get(g)[0] == 2 || guests.get(g)[0] == 4;
        }

        /** From which day on each knows: looked through again until nothing comes nearer. */
        int[] knowing(List<Integer> from, boolean allTell) {
            int n = guests.size();
            int[] since = new int[n];
            for (int g = 0; g < n; g++) {
                since[g] = from.get(g) == 0 ? NEVER : from.get(g);
            }
            for (boolean nearer = true; nearer;) {
                nearer = false;
                for (int a = 0; a < n; a++) {
                    for (int b = 0; b < n; b++) {
                        for (int day = 1; day <= 8; day++) {
                            boolean tells = (allTell || guests.get(a)[0] == 1) && since[a] <= day;
                            if (tells && sees[a][b][day] && since[b] > day + 1) {
                                since[b] = day + 1;
                                nearer = true;
                            }
                        }
                    }
                }
            }
            return since;
        }

        int slip(int[] meeting, int[] since) {
            if (since[meeting[0]] > meeting[1]) {
                return 0;
            }
            int kind = guests.get(meeting[0])[0];
            return kind == 3 || kind == 4 ? meeting[2] / 2 : meeting[2];
        }

        /** How likely the first slip is of each meeting. */
        Ratio[] firstSlips(int[] since) {
            Ratio[] first = new Ratio[meetings.size()];
            Ratio silent = Ratio.ONE;
            for (int i = 0; i < first.length; i++) {
                Ratio slip = Ratio.of(slip(meetings.get(i), since), 10);
                first[i] = silent.times(slip);
                silent = silent.times(Ratio.ONE.minus(slip));
            }
            return first;
        }

        Ratio known(List<Integer> plan) {
            Ratio sum = Ratio.ZERO;
            for (Ratio r : firstSlips(knowing(plan, false))) {
                sum = sum.plus(r);
            }
            return sum;
        }

        long whose(int g, int part) {
            if (!isGuest(g)) {
                return -101;
            }
            if (part != 0 && part != 1) {
                return -102;
            }
            Ratio all = known(told);
            if (all.equals(Ratio.ZERO)) {
                return -1;
            }
            Ratio its = Ratio.ZERO;
            Ratio[] first = firstSlips(knowing(told, false));
            for (int i = 0; i < first.length; i++) {
                if (meetings.get(i)[0] == g) {
                    its = its.plus(first[i]);
                }
            }
            return its.by(all).part(part);
        }

        int right() {
            int[] since = knowing(told, false);
            for (int g = 0; g < guests.size(); g++) {
                if (isNeeded(g) && since[g] > guests.get(g)[1]) {
                    return 0;
                }
            }
            return 1;
        }

        List<Integer> bestPlan;
        long bestSilent;

        /** Every plan, in order; KNOWN is least where the ways in which no word slips are most. */
        void plans(int g, List<Integer> plan) {
            if (g == guests.size()) {
                long silent = 1;
                int[] since = knowing(plan, false);
                for (int[] m : meetings) {
                    silent *= 10 - slip(m, since);
                }
                if (bestPlan == null || silent > bestSilent) {
                    bestPlan = new ArrayList<>(plan);
                    bestSilent = silent;
                }
                return;
            }
            int by = guests.get(g)[1];
            for (int day = by == 0 ? 0 : 1; day <= by; day++) {
                plan.add(day);
                plans(g + 1, plan);
                plan.remove(plan.size() - 1);
            }
        }

        long best(int what) {
            if (what != 0 && what != 1 && (what < 10 || what > 18)) {
                return -102;
            }
            int needed = 0;
            for (int g = 0; g < guests.size(); g++) {
                needed += isNeeded(g) ? 1 : 0;
            }
            if (needed > 4 || bests == 40) {
                return -103;
            }
            bests++;
            bestPlan = null;
            plans(0, new ArrayList<>());
            if (what >= 10) {
                return isGuest(what - 10) ? bestPlan.get(what - 10) : -1;
            }
            return known(bestPlan).part(what);
        }

        int hole() {
            TreeMap<Ratio, Integer> without = new TreeMap<>();
            for (int g = 0; g < guests.size(); g++) {
                if (told.get(g) != 0) {
                    List<Integer> plan = new ArrayList<>(told);
                    plan.set(g, 0);
                    without.putIfAbsent(known(plan), g);
                }
            }
            if (without.isEmpty() || without.firstKey().compareTo(known(told)) >= 0) {
                return -1;
            }
            return without.firstEntry().getValue();
        }

        int latest(int g) {
            if (!isGuest(g)) {
                return -101;
            }
            int found = -1;
            for (int day = 1; day <= 8; day++) {
                List<Integer> plan = new ArrayList<>();
                for (int i = 0; i < guests.size(); i++) {
                    plan.add(i == 0 ? day : 0);
                }
                if (knowing(plan, true)[g] <= 9) {
                    found = day;
                }
            }
            return found;
        }

        int onSaturday() {
            int many = 0;
            for (int since : knowing(told, false)) {
                many += since <= 9 ? 1 : 0;
            }
            return many;
        }

        int cover(int what) {
            if (what != 0 && what != 1) {
                return -102;
            }
            int[] since = knowing(told, false);
            for (int many = 0; many <= stories.size(); many++) {
                for (int bits = 0; bits < 256; bits++) {
                    if (Integer.bitCount(bits) == many && bits >> stories.size() == 0 && covers(bits, since)) {
                        return what == 0 ? many : bits;
                    }
                }
            }
            return -1;
        }

        boolean covers(int bits, int[] since) {
            for (int a = 0; a < stories.size(); a++) {
                for (int b = 0; b < stories.size(); b++) {
                    if ((bits >> a & 1) == 1 && (bits >> b & 1) == 1 && clashes[a][b]) {
                        return false;
                    }
                }
            }
            for (int g = 0; g < since.length; g++) {
                boolean can = since[g] > 9;
                for (int a = 0; a < stories.size(); a++) {
                    can |= (bits >> a & 1) == 1 && (stories.get(a) >> g & 1) == 1;
                }
                if (!can) {
                    return false;
                }
            }
            return true;
        }

        Ratio seenIf(int sign, boolean is, int takes) {
            int[] s = signs.get(sign);
            if (!is) {
                return Ratio.of(s[1], 10);
            }
            // hundredths, then to whole tenths towards the other ones
            int hundredths = 10 * s[0] + (s[1] - s[0]) * takes;
            int tenths = hundredths / 10;
            if (hundredths % 10 != 0 && s[1] > s[0]) {
                tenths++;
            }
            return Ratio.of(tenths, 10);
        }

        Ratio oddsOf(boolean is, int takes) {
            Ratio odds = Ratio.of(1, 2);
            for (int i = 0; i < signs.size(); i++) {
                if (looks.get(i) == 1) {
                    odds = odds.times(seenIf(i, is, takes));
                } else if (looks.get(i) == 2) {
                    odds = odds.times(Ratio.ONE.minus(seenIf(i, is, 0)));
                }
            }
            return odds;
        }

        Ratio belief(int takes) {
            Ratio is = oddsOf(true, takes);
            return is.by(is.plus(oddsOf(false, 0)));
        }

        int parting() {
            TreeMap<Ratio, Integer> after = new TreeMap<>();
            Ratio is = belief(0);
            Ratio isNot = Ratio.ONE.minus(is);
            for (int i = 0; i < signs.size(); i++) {
                if (looks.get(i) == 0) {
                    Ratio with = seenIf(i, true, 0);
                    Ratio without = seenIf(i, false, 0);
                    Ratio seen = is.times(with).lesser(isNot.times(without));
                    Ratio not = is.times(Ratio.ONE.minus(with)).lesser(isNot.times(Ratio.ONE.minus(without)));
                    after.putIfAbsent(seen.plus(not), i);
                }
            }
            return after.isEmpty() ? -1 : after.firstEntry().getValue();
        }

        Matcher asList(String text) {
            String one = guests.isEmpty() ? "[^\\x00-\\xff]" : "[0-" + (guests.size() - 1) + "][1-8][1-9]";
            return Pattern.compile(one + "(," + one + "){0,14}", Pattern.DOTALL).matcher(text);
        }

        int fault() {
            for (int end = 1; end <= page.length(); end++) {
                Matcher m = asList(page.substring(0, end));
                if (!m.matches() && !m.hitEnd()) {
                    return end - 1;
                }
            }
            return page.length();
        }

        int list() {
            if (!asList(page).matches()) {
                return -103;
            }
            meetings = new ArrayList<>();
            for (String s : page.split(",")) {
                meetings.add(new int[] {s.charAt(0) - '0', s.charAt(1) - '0', s.charAt(2) - '0'});
            }
            meetings.sort((a, b) -> Integer.compare(a[1], b[1]));
            page = "";
            lists++;
            return meetings.size();
        }

        int letters(long w) {
            StringBuilder more = new StringBuilder();
            for (int i = 0; i < 8; i++) {
                more.append((char) (w >> 8 * i & 255));
            }
            if (!Pattern.matches("[\\x01-\\x7e]*\\x00*", more)) {
                return -102;
            }
            String text = page + more.toString().replace("\0", "");
            if (text.length() > 60) {
                return -104;
            }
            page = text;
            return page.length();
        }

        int weeks(int seed, int what) {
            if (seed < 0 || what < 0 || what > 2) {
                return -102;
            }
            BigInteger now = BigInteger.valueOf(seed);
            int[] since = knowing(told, false);
            int at = -1;
            for (int i = 0; i < meetings.size() && at < 0; i++) {
                if (since[meetings.get(i)[0]] <= meetings.get(i)[1]) {
                    now = now.multiply(BigInteger.valueOf(1103515245)).add(BigInteger.valueOf(12345)).mod(BigInteger.TWO.pow(31));
                    if (now.divide(BigInteger.valueOf(65536)).mod(BigInteger.TEN).intValue() < slip(meetings.get(i), since)) {
                        at = i;
                    }
                }
            }
            return what == 2 ? now.intValueExact() : at < 0 ? -1 : what == 0 ? at : meetings.get(at)[0];
        }

        long quiet(long k, int h, long n, int part) {
            if (k < 1 || k > 9 || h < 0 || h > 9 || n < 1 || k * n > 18 || part < 0 || part > 1) {
                return -102;
            }
            Ratio all = Ratio.ONE;
            for (int i = 0; i < k * n; i++) {
                all = all.times(Ratio.of(10 - h, 10));
            }
            return all.part(part);
        }

        int about(int g, int what) {
            if (!isGuest(g)) {
                return -101;
            }
            int since = knowing(told, false)[g];
            int[] all = {guests.get(g)[0], guests.get(g)[1], told.get(g), since > 9 ? -1 : since};
            return what < 0 || what > 3 ? -102 : all[what];
        }

        int meeting(int i, int what) {
            if (i < 0 || i >= meetings.size()) {
                return -101;
            }
            int[] m = meetings.get(i);
            int[] all = {m[0], m[1], m[2], slip(m, knowing(told, false))};
            return what < 0 || what > 3 ? -102 : all[what];
        }

        int count(int what) {
            int[] all = {guests.size(), meetings.size(), stories.size(), signs.size(), onSaturday(), page.length(), lists, bests};
            return what < 0 || what > 7 ? -102 : all[what];
        }

        long digest() {
            List<Long> all = new ArrayList<>();
            for (int g = 0; g < guests.size(); g++) {
                for (int what = 0; what < 4; what++) {
                    all.add((long) about(g, what));
                }
                all.add((long) latest(g));
            }
            for (int i = 0; i < meetings.size(); i++) {
                for (int what = 0; what < 4; what++) {
                    all.add((long) meeting(i, what));
                }
            }
            all.addAll(List.of(known(told).part(0), known(told).part(1), (long) right(), (long) hole(), (long) cover(0), (long) cover(1)));
            for (int i = 0; i < signs.size(); i++) {
                all.addAll(List.of((long) signs.get(i)[0], (long) signs.get(i)[1], (long) looks.get(i)));
            }
            all.addAll(List.of(belief(0).part(0), belief(0).part(1), (long) parting()));
            for (char c : page.toCharArray()) {
                all.add((long) c);
            }
            for (int what = 0; what < 8; what++) {
                all.add((long) count(what));
            }
            BigInteger h = BigInteger.valueOf(613);
            for (long number : all) {
                h = h.multiply(BigInteger.valueOf(31)).add(BigInteger.valueOf(number));
            }
            return h.longValue();
        }

        boolean[][][] copy(boolean[][][] from) {
            boolean[][][] to = new boolean[9][9][];
            for (int a = 0; a < 9; a++) {
                for (int b = 0; b < 9; b++) {
                    to[a][b] = from[a][b].clone();
                }
            }
            return to;
        }

        int image() {
            keptTold = new ArrayList<>(told);
            keptSees = copy(sees);
            keptLooks = new ArrayList<>(looks);
            return onSaturday();
        }

        int restore() {
            if (keptTold == null || keptTold.size() != told.size() || keptLooks.size() != looks.size()) {
                return -103;
            }
            told = new ArrayList<>(keptTold);
            sees = copy(keptSees);
            looks = new ArrayList<>(keptLooks);
            return onSaturday();
        }

        int guest(int kind, int by) {
            boolean dated = kind == 2 || kind == 4;
            if (kind < 0 || kind > 4 || (dated ? by < 1 || by > 8 : by != 0)) {
                return -102;
            }
            if (guests.size() == 9) {
                return -104;
            }
            guests.add(new int[] {kind, by});
            told.add(0);
            return guests.size() - 1;
        }

        int as(int g, int kind) {
            if (!isGuest(g)) {
                return -101;
            }
            if (kind < 0 || kind > 4) {
                return -102;
            }
            int own = guests.get(g)[0];
            return kind == 0 || kind == own || kind == 2 && isNeeded(g) ? g : -1;
        }

        int sees(int a, int b, int day, boolean is) {
            if (!isGuest(a) || !isGuest(b) || a == b) {
                return -101;
            }
            if (day < 1 || day > 8) {
                return -102;
            }
            int was = sees[a][b][day] ? 1 : 0;
            sees[a][b][day] = is;
            sees[b][a][day] = is;
            return was;
        }

        int tell(int g, int day) {
            return !isGuest(g) ? -101 : day < 0 || day > 8 ? -102 : told.set(g, day);
        }

        int clash(int a, int b, boolean is) {
            int n = stories.size();
            if (a < 0 || a >= n || b < 0 || b >= n || a == b) {
                return -101;
            }
            int was = clashes[a][b] ? 1 : 0;
            clashes[a][b] = is;
            clashes[b][a] = is;
            return was;
        }

        int story(int set) {
            if (set < 0 || set > 511) {
                return -102;
            }
            if (stories.size() == 8) {
                return -104;
            }
            stories.add(set);
            return stories.size() - 1;
        }

        int sign(int with, int without) {
            if (with < 1 || with > 9 || without < 1 || without > 9) {
                return -102;
            }
            if (signs.size() == 8) {
                return -104;
            }
            signs.add(new int[] {with, without});
            looks.add(0);
            return signs.size() - 1;
        }

        int look(int sign, int how) {
            return sign < 0 || sign >= signs.size() ? -101 : how < 0 || how > 2 ? -102 : looks.set(sign, how);
        }
    }

    private static final class Run {
        final SurpriseSaturday x = new SurpriseSaturday();
        final Model m = new Model();
        final Random random;
        final int number;
        final int wild;
        int calls = 0;

        Run(int number) {
            this.number = number;
            random = new Random(number);
            wild = 5 + random.nextInt(40);
        }

        int from(int low, int high) {
            if (random.nextInt(wild) == 0) {
                int[] odd = {low - 1, high + 1, -1, 0, Integer.MIN_VALUE, Integer.MAX_VALUE, 1 << 29, high + 2};
                return odd[random.nextInt(odd.length)];
            }
            return low + random.nextInt(Math.max(1, high - low + 1));
        }

        int aGuest() {
            return from(0, m.guests.size() - 1);
        }

        /** Each is one call of the object. */
        void due(String call, long got, long want, Object... args) {
            calls++;
            if (got != want && wrong++ < 20) {
                System.out.println("run " + number + ": " + call + Arrays.toString(args) + " answered " + got + ", due is " + want);
            }
        }

        long someLetters() {
            long w = 0;
            int many = random.nextInt(9);
            for (int i = 0; i < many; i++) {
                w |= (long) "0123456789,,a".charAt(random.nextInt(13)) << 8 * i;
            }
            return random.nextInt(10) == 0 ? w | random.nextLong() & random.nextLong() & random.nextLong() : w;
        }

        void writeList() {
            StringBuilder text = new StringBuilder();
            int many = 1 + random.nextInt(random.nextInt(5) == 0 ? 16 : 6);
            for (int i = 0; i < many; i++) {
                text.append(i == 0 ? "" : ",").append(random.nextInt(Math.max(1, m.guests.size())));
                text.append(1 + random.nextInt(8)).append(1 + random.nextInt(9));
            }
            due("blank", x.blank(), m.page.length());
            m.page = "";
            for (int i = 0; i < text.length(); i += 8) {
                long w = 0;
                for (int j = Math.min(text.length(), i + 8) - 1; j >= i; j--) {
                    w = w << 8 | text.charAt(j);
                }
                due("letters", x.letters(w), m.letters(w), w);
            }
            due("fault", x.fault(), m.fault(), m.page);
            due("list", x.list(), m.list(), m.page);
        }

        void anyGuest() {
            int kind = from(0, 4);
            int by = kind == 2 || kind == 4 ? from(1, 8) : from(0, 0);
            due("guest", x.guest(kind, by), m.guest(kind, by), kind, by);
        }

        void change() {
            int a = aGuest();
            int b = aGuest();
            int day = from(0, 8);
            boolean is = random.nextInt(4) != 0;
            switch (random.nextInt(12)) {
                case 0 -> anyGuest();
                case 1, 2, 3 -> due("sees", x.sees(a, b, day, is), m.sees(a, b, day, is), a, b, day, is);
                case 4, 5 -> due("tell", x.tell(a, day), m.tell(a, day), a, day);
                case 6 -> {
                    int set = random.nextInt(3) == 0 ? from(0, 511) : 1 << random.nextInt(9) | 1 << random.nextInt(9);
                    due("story", x.story(set), m.story(set), set);
                }
                case 7 -> {
                    int c = from(0, m.stories.size() - 1);
                    int d = from(0, m.stories.size() - 1);
                    due("clash", x.clash(c, d, is), m.clash(c, d, is), c, d, is);
                }
                case 8 -> {
                    int with = from(1, 9);
                    int without = from(1, 9);
                    if (random.nextInt(3) == 0) {
                        due("sign", x.sign(with, without), m.sign(with, without), with, without);
                    }
                }
                case 9 -> {
                    int sign = from(0, m.signs.size() - 1);
                    int how = from(0, 2);
                    due("look", x.look(sign, how), m.look(sign, how), sign, how);
                }
                case 10 -> page();
                default -> {
                    if (random.nextInt(3) == 0) {
                        due("image", x.image(), m.image());
                    } else {
                        due("restore", x.restore(), m.restore());
                    }
                }
            }
        }

        void page() {
            switch (random.nextInt(5)) {
                case 0, 1 -> {
                    long w = someLetters();
                    due("letters", x.letters(w), m.letters(w), w);
                }
                case 2 -> due("list", x.list(), m.list());
                default -> writeList();
            }
        }

        void ask() {
            int g = aGuest();
            int part = from(0, 1);
            int what = from(0, 3);
            switch (random.nextInt(18)) {
                case 0 -> due("about", x.about(g, what), m.about(g, what), g, what);
                case 1 -> {
                    int kind = from(0, 4);
                    due("as", x.as(g, kind), m.as(g, kind), g, kind);
                }
                case 2 -> due("fault", x.fault(), m.fault(), m.page);
                case 3 -> {
                    int i = from(0, m.meetings.size() - 1);
                    due("meeting", x.meeting(i, what), m.meeting(i, what), i, what);
                }
                case 4 -> due("known", x.known(part), part == 0 || part == 1 ? m.known(m.told).part(part) : -102, part);
                case 5 -> due("whose", x.whose(g, part), m.whose(g, part), g, part);
                case 6 -> due("right", x.right(), m.right());
                case 7 -> {
                    if (random.nextInt(4) == 0 || number % 20 == 0) {
                        int of = random.nextInt(3) == 0 ? from(0, 1) : from(10, 18);
                        due("best", x.best(of), m.best(of), of);
                    }
                }
                case 8 -> due("hole", x.hole(), m.hole());
                case 9 -> due("latest", x.latest(g), m.latest(g), g);
                case 10 -> due("cover", x.cover(part), m.cover(part), part);
                case 11, 12 -> {
                    int takes = from(0, 9);
                    boolean bad = takes < 0 || takes > 9 || part < 0 || part > 1;
                    due("belief", x.belief(takes, part), bad ? -102 : m.belief(takes).part(part), takes, part);
                }
                case 13 -> due("parting", x.parting(), m.parting());
                case 14 -> {
                    int k = from(1, 9);
                    int h = from(0, 9);
                    int n = from(1, k > 0 && k < 19 ? 18 / k : 2);
                    due("quiet", x.quiet(k, h, n, part), m.quiet(k, h, n, part), k, h, n, part);
                }
                case 15 -> {
                    int seed = random.nextInt() >>> random.nextInt(32);
                    int of = from(0, 2);
                    due("weeks", x.weeks(seed, of), m.weeks(seed, of), seed, of);
                }
                case 16 -> {
                    int of = from(0, 7);
                    due("count", x.count(of), m.count(of), of);
                }
                default -> due("digest", x.digest(), m.digest());
            }
        }

        void go() {
            int early = random.nextInt(10);
            for (int i = 0; i < early; i++) {
                anyGuest();
            }
            for (int i = 0; i < CALLS && calls < CALLS - MOST_AT_ONCE; i++) {
                if (random.nextInt(5) < 2) {
                    change();
                } else {
                    ask();
                }
            }
            due("digest at the end", x.digest(), m.digest());
        }
    }

    public static void main(String[] args) {
        for (int number = 1; number <= RUNS; number++) {
            new Run(number).go();
        }
        System.out.println(wrong == 0 ? "all answers are as due" : wrong + " answers are not as due");
        if (wrong != 0) {
            System.exit(1);
        }
    }
}
