import java.math.BigInteger;
import java.util.ArrayList;
import java.util.List;

/**
 * The document once more, in its plainest form and in other ways than the program's: states are copied, not
 * undone; rows of speakers are all tried, not sought. Refusals of ROWS and TEXTS are the caller's.
 */
final class Plain {
    static final int NONE = -9;

    /** A SPEAKER: kind, words, room, breath as told, breath left. */
    record Speaker(char letter, int words, int room, int told, int left) {
        boolean parrot() {
            return letter == 'p' || letter == 'c';
        }

        boolean nephew() {
            return letter == 'n' || letter == 'm';
        }

        Speaker as(char other) {
            return new Speaker(other, words, room, told, left);
        }

        Speaker in(int other) {
            return new Speaker(letter, words, other, told, left);
        }

        Speaker breathing(int other) {
            return new Speaker(letter, words, room, told, other);
        }
    }

    /** A WORD and who said it. */
    record Spoken(int word, int by) {
    }

    /** A house at one time; nothing in it changes. */
    record Now(List<Speaker> speakers, int hour, int ended, List<Spoken> order) {
        boolean able(Speaker s, int last, int word) {
            boolean has = (s.words() & (1 << word)) > 0;
            boolean can = has;
            if (last >= 0 && s.parrot() && last == word) can = true;
            if (last >= 0 && s.letter() == 'c' && (last == 5 ? 0 : last + 1) == word) can = true;
            if (s.letter() == 's' && hour % 2 != 0) can = false;
            if (s.nephew() && last < 0) can = false;
            if (s.letter() == 'm' && word != 1 && word != 3 && word != 5) can = false;
            return can;
        }

        int last() {
            return order.isEmpty() ? NONE : order.get(order.size() - 1).word();
        }

        boolean can(int i, int word) {
            Speaker s = speakers.get(i);
            if (order.size() == 8 || s.left() == 0 || !able(s, last(), word)) return false;
            if (order.isEmpty()) return true;
            int by = order.get(order.size() - 1).by();
            int apart = speakers.get(by).room() - s.room();
            return by != i && (apart == 0 || apart == 1 || apart == -1);
        }

        Now with(int i, Speaker s) {
            List<Speaker> others = new ArrayList<>(speakers);
            others.set(i, s);
            return new Now(others, hour, ended, order);
        }

        Now say(int i, int word) {
            List<Spoken> longer = new ArrayList<>(order);
            longer.add(new Spoken(word, i));
            Speaker s = speakers.get(i);
            return new Now(with(i, s.breathing(s.left() - 1)).speakers(), hour, ended, longer);
        }

        Now end() {
            return new Now(speakers, hour, ended + 1, List.of());
        }

        Now pass() {
            List<Speaker> again = new ArrayList<>();
            for (Speaker s : speakers) again.add(s.breathing(s.told()));
            return new Now(again, hour + 1, ended, order);
        }

        boolean isWay(int[] words, int[] way) {
            Now now = this;
            for (int k = 0; k < words.length; k++) {
                if (!now.can(way[k], words[k])) return false;
                now = now.say(way[k], words[k]);
            }
            return true;
        }

        /** All WAYS in their order. */
        List<int[]> ways(int[] words) {
            List<int[]> ways = new ArrayList<>();
            int n = speakers.size();
            int all = 1;
            for (int k = 0; k < words.length; k++) all *= n;
            for (int number = 0; number < all; number++) {
                int[] way = new int[words.length];
                int rest = number;
                for (int k = words.length - 1; k >= 0; k--) {
                    way[k] = rest % n;
                    rest /= n;
                }
                if (isWay(words, way)) ways.add(way);
            }
            return ways;
        }
    }

    /** Behind each DEED, the first one at first; empty without a house. */
    List<Now> history = new ArrayList<>();
    final List<List<Now>> kept = new ArrayList<>(List.of(List.of(), List.of(), List.of()));
    int asked = 0;
    BigInteger upper = BigInteger.ZERO;
    BigInteger lower = BigInteger.ONE;

    Now now() {
        return history.isEmpty() ? new Now(List.of(), 0, 0, List.of()) : history.get(history.size() - 1);
    }

    boolean isFull() {
        return history.size() == 41;
    }

    static int faultOf(String text) {
        int p = 0;
        for (int items = 0;; items++) {
            while (p < text.length() && text.charAt(p) == ' ') p++;
            if (p == text.length()) return items == 0 ? p : NONE;
            if (items == 6 || "vpsnmc".indexOf(text.charAt(p)) < 0) return p;
            String rest = text.substring(p + 1);
            if (rest.isEmpty()) return p + 1;
            if (!rest.matches("(?s)[0-9].*")) return p + 1;
            if (rest.length() == 1) return p + 2;
            if (!rest.matches("(?s)[0-9][0-9].*")) return p + 2;
            if (!rest.matches("(?s)([0-5].|6[0-3]).*")) return p + 1;
            if (rest.length() == 2) return p + 3;
            if (!rest.matches("(?s)..[0-5].*")) return p + 3;
            if (rest.length() == 3) return p + 4;
            if (!rest.matches("(?s)...[1-9].*")) return p + 4;
            p += 5;
        }
    }

    int house(String text) {
        if (faultOf(text) != NONE) return HerOrders.STATE;
        String items = text.replace(" ", "");
        List<Speaker> speakers = new ArrayList<>();
        for (int p = 0; p < items.length(); p += 5) {
            int told = items.charAt(p + 4) - '0';
            int words = Integer.parseInt(items.substring(p + 1, p + 3));
            speakers.add(new Speaker(items.charAt(p), words, items.charAt(p + 3) - '0', told, told));
        }
        history = new ArrayList<>(List.of(new Now(speakers, 0, 0, List.of())));
        for (int k = 0; k < 3; k++) kept.set(k, List.of());
        return speakers.size();
    }

    int tell(int value) {
        asked = value;
        return 1;
    }

    int share(long over, long under) {
        BigInteger a = BigInteger.valueOf(over);
        BigInteger b = BigInteger.valueOf(under);
        BigInteger both = a.gcd(b);
        upper = a.divide(both);
        lower = b.divide(both);
        return 1;
    }

    static int setOf(int[] way) {
        int set = 0;
        for (int i : way) set |= 1 << i;
        return set;
    }

    int fact(int i, int what) {
        Speaker s = now().speakers().get(i);
        int[] facts = {"vpsnmc".indexOf(s.letter()), s.words(), s.room(), s.told(), s.left(), 0};
        for (Spoken spoken : now().order()) if (spoken.by() == i) facts[5]++;
        return facts[what];
    }

    int mark(int i, int kind) {
        Now now = now();
        Speaker s = now.speakers().get(i);
        String letters = new String[] {"", "pc", "s", "nm", "m", "c"}[kind];
        if (letters.indexOf(s.letter()) < 0) return HerOrders.FINDING;
        int marks = 0;
        switch (kind) {
            case 1:
                for (int w = 0; w < 6; w++) if (now.able(s, now.last(), w) && (s.words() >> w) % 2 == 0) marks++;
                return marks;
            case 2:
                return now.hour() % 2;
            case 3:
                for (int k = 0; k < now.speakers().size(); k++) if (k != i && what(k) > 0) marks++;
                return marks;
            case 4:
                for (int w = 0; w < 6; w += 2) marks += s.words() >> w & 1;
                return marks;
            default:
                for (Speaker other : now.speakers()) if (other.room() == s.room()) marks++;
                return marks - 1;
        }
    }

    int what(int i) {
        int set = 0;
        for (int w = 0; w < 6; w++) if (now().can(i, w)) set += 1 << w;
        return set;
    }

    int who(int word) {
        int set = 0;
        for (int i = 0; i < now().speakers().size(); i++) if (now().can(i, word)) set += 1 << i;
        return set;
    }

    int somebody() {
        int set = 0;
        for (int w = 0; w < 6; w++) if (who(w) != 0) set += 1 << w;
        return set;
    }

    int act(Now next) {
        history.add(next);
        return 1;
    }

    int say(int i, int word) {
        if (!now().can(i, word)) return HerOrders.STATE;
        if (isFull()) return HerOrders.FULL;
        act(now().say(i, word));
        return now().order().size();
    }

    int end() {
        int words = now().order().size();
        if (words == 0) return HerOrders.STATE;
        if (isFull()) return HerOrders.FULL;
        act(now().end());
        return words;
    }

    int hour() {
        if (history.isEmpty()) return HerOrders.STATE;
        if (isFull()) return HerOrders.FULL;
        act(now().pass());
        return now().hour();
    }

    int walk(int i, int room) {
        Speaker s = now().speakers().get(i);
        if (s.room() == room) return HerOrders.STATE;
        if (isFull()) return HerOrders.FULL;
        act(now().with(i, s.in(room)));
        return room > s.room() ? room - s.room() : s.room() - room;
    }

    int deeds() {
        return Math.max(0, history.size() - 1);
    }

    int undo(int n) {
        if (n < 0 || n > deeds()) return HerOrders.BAD;
        int undone = deeds() - n;
        if (!history.isEmpty()) history = new ArrayList<>(history.subList(0, n + 1));
        return undone;
    }

    int ways(int[] words) {
        List<int[]> ways = now().ways(words);
        int all = ways.isEmpty() ? 0 : -1;
        for (int[] way : ways) all &= setOf(way);
        tell(all);
        return share(ways.size(), 1);
    }

    /** The WAY of the fewest, or null. */
    int[] few(int[] words) {
        int[] best = null;
        for (int[] way : now().ways(words)) {
            if (best == null || Integer.bitCount(setOf(way)) < Integer.bitCount(setOf(best))) best = way;
        }
        return best;
    }

    static int[] ahead(int[] words, int n) {
        return java.util.Arrays.copyOf(words, n);
    }

    int farOf(Now now, int[] words) {
        int n = 0;
        while (n < words.length && !now.ways(ahead(words, n + 1)).isEmpty()) n++;
        return n;
    }

    int far(int[] words) {
        int n = farOf(now(), words);
        tell(now().ways(ahead(words, n)).size());
        return n;
    }

    static int[] rowOf(int number, int n) {
        int[] row = new int[n];
        for (int k = n - 1; k >= 0; k--) {
            row[k] = number % 6;
            number /= 6;
        }
        return row;
    }

    boolean hasWay(int[] words) {
        return farOf(now(), words) == words.length;
    }

    int dumb() {
        for (int n = 1; n <= 3; n++) {
            for (int number = 0; number < Math.pow(6, n); number++) {
                if (!hasWay(rowOf(number, n))) {
                    tell(number);
                    return n;
                }
            }
        }
        return NONE;
    }

    int[] longest() {
        for (int n = 4; n >= 1; n--) {
            for (int number = 0; number < Math.pow(6, n); number++) {
                if (hasWay(rowOf(number, n))) return rowOf(number, n);
            }
        }
        return new int[0];
    }

    List<int[]> heardWays(int[] pairs) {
        int[] words = new int[pairs.length / 2];
        for (int k = 0; k < words.length; k++) words[k] = pairs[2 * k];
        List<int[]> ways = new ArrayList<>();
        for (int[] way : now().ways(words)) {
            boolean heard = true;
            for (int k = 0; k < way.length; k++) heard &= now().speakers().get(way[k]).room() == pairs[2 * k + 1];
            if (heard) ways.add(way);
        }
        return ways;
    }

    int heard(int[] pairs) {
        List<int[]> ways = heardWays(pairs);
        tell(ways.isEmpty() || pairs.length == 0 ? NONE : ways.get(0)[0]);
        return share(ways.size(), 1);
    }

    int sure(int[] pairs) {
        List<int[]> ways = heardWays(pairs);
        if (ways.isEmpty()) return HerOrders.FINDING;
        int all = 63;
        int none = (1 << now().speakers().size()) - 1;
        for (int[] way : ways) {
            all &= setOf(way);
            none &= ~setOf(way);
        }
        tell(none);
        return all;
    }

    int kinds(int i, int[] triples) {
        int set = 0;
        for (int kind = 0; kind < 6; kind++) {
            Speaker s = now().speakers().get(i).as("vpsnmc".charAt(kind));
            boolean fits = true;
            for (int p = 0; p < triples.length; p += 3) {
                fits &= (now().able(s, triples[p], triples[p + 1]) ? 1 : 0) == triples[p + 2];
            }
            if (fits) set += 1 << kind;
        }
        return set;
    }

    int test(int i, int[] triples) {
        int set = kinds(i, triples);
        if (set == 0) return NONE;
        int best = -1;
        int least = 7;
        for (int number = 0; number <= 65; number++) {
            if (number % 10 > 5) continue;
            int[] parts = new int[2];
            for (int kind = 0; kind < 6; kind++) {
                Speaker s = now().speakers().get(i).as("vpsnmc".charAt(kind));
                int last = number < 10 ? NONE : number / 10 - 1;
                if ((set >> kind & 1) == 1) parts[now().able(s, last, number % 10) ? 1 : 0]++;
            }
            int greater = Math.max(parts[0], parts[1]);
            if (greater < least) {
                least = greater;
                best = number;
            }
        }
        tell(least);
        return best;
    }

    int fourth(int[] words, int room) {
        if (now().speakers().size() == 6) return NONE;
        for (int few = 0; few <= 6; few++) {
            for (int set = 0; set < 64; set++) {
                if (Integer.bitCount(set) != few) continue;
                List<Speaker> more = new ArrayList<>(now().speakers());
                more.add(new Speaker('v', set, room, 9, 9));
                Now fuller = new Now(more, now().hour(), now().ended(), now().order());
                if (farOf(fuller, words) == words.length) {
                    tell(set);
                    return few;
                }
            }
        }
        return NONE;
    }

    int off(int[] words) {
        int[] order = new int[now().order().size()];
        for (int k = 0; k < order.length; k++) order[k] = now().order().get(k).word();
        return apart(order, order.length, words, words.length);
    }

    private static int apart(int[] a, int n, int[] b, int m) {
        if (n == 0 || m == 0) return n + m;
        if (a[n - 1] == b[m - 1]) return apart(a, n - 1, b, m - 1);
        return 1 + Math.min(apart(a, n - 1, b, m - 1), Math.min(apart(a, n - 1, b, m), apart(a, n, b, m - 1)));
    }

    static int struck(Now now, int n) {
        if (n == 0) return NONE;
        boolean some = false;
        boolean open = false;
        for (int i = 0; i < now.speakers().size(); i++) {
            for (int w = 0; w < 6; w++) {
                if (!now.can(i, w)) continue;
                some = true;
                int other = struck(now.say(i, w), n - 1);
                if (other == 1) return 0;
                if (other == NONE) open = true;
            }
        }
        return some && open ? NONE : 1;
    }

    /** The chance of all WORDS, or the mean of how many, in parts of 12 for each SPEAKER. */
    int chances(int[] words, int p, boolean mean) {
        int n = now().speakers().size();
        long sum = 0;
        long total = 0;
        for (int silent = 0; silent < 1 << n; silent++) {
            long weight = 1;
            Now fewer = now();
            for (int i = 0; i < n; i++) {
                boolean is = (silent >> i & 1) == 1;
                weight *= is ? p : 12 - p;
                if (is) fewer = fewer.with(i, fewer.speakers().get(i).breathing(0));
            }
            total += weight;
            if (weight == 0) continue;
            int far = farOf(fewer, words);
            sum += weight * (mean ? far : far == words.length ? 1 : 0);
        }
        return share(sum, total);
    }

    int lots(int n, int seed) {
        if (history.isEmpty()) return HerOrders.STATE;
        if (deeds() + n > 40) return HerOrders.FULL;
        BigInteger lot = BigInteger.valueOf(seed);
        for (int k = 0; k < n; k++) {
            lot = lot.multiply(BigInteger.valueOf(48271)).mod(BigInteger.valueOf(2147483647));
            long number = lot.longValueExact();
            int i = (int) (number / 8 % now().speakers().size());
            int word = (int) (number / 64 % 6);
            if (now().can(i, word)) act(now().say(i, word));
            else if (now().order().size() >= 4) act(now().end());
            else act(now().pass());
        }
        return now().order().size();
    }

    int[] counts() {
        int left = 0;
        int parrots = 0;
        for (Speaker s : now().speakers()) {
            left += s.left();
            if (s.parrot()) parrots++;
        }
        return new int[] {now().speakers().size(), now().hour(), deeds(), now().order().size(), now().ended(), left,
            somebody(), parrots};
    }
}
