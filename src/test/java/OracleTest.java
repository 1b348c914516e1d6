import java.util.Random;

/** Many houses by chance: what the program answers, and what Plain answers, has to be the same. */
public final class OracleTest {
    private static final String[] FORMS = {"vpsnmc", "vvpc", "nmcp", "vs", "pcpc"};

    private final Random chance;
    private final HerOrders x = new HerOrders();
    private final Plain y = new Plain();
    private final int seed;
    private int calls = 0;

    private OracleTest(int seed) {
        this.seed = seed;
        chance = new Random(seed);
    }

    public static void main(String[] args) {
        int houses = args.length > 0 ? Integer.parseInt(args[0]) : 400;
        for (int seed = 0; seed < houses; seed++) new OracleTest(seed).run();
        Desk.finish();
    }

    private int upTo(int n) {
        return chance.nextInt(n);
    }

    private void same(String call, long got, long want) {
        Desk.due("seed " + seed + ": " + call, got, want);
        Desk.due("seed " + seed + ": " + call + ", asked()", x.asked(), y.asked);
        Desk.due("seed " + seed + ": " + call + ", upper()", x.upper(), y.upper.longValueExact());
        Desk.due("seed " + seed + ": " + call + ", lower()", x.lower(), y.lower.longValueExact());
        calls += 4;
    }

    private String houseText() {
        String form = FORMS[upTo(FORMS.length)];
        int rooms = 1 + upTo(4);
        int breath = 1 + upTo(4);
        StringBuilder text = new StringBuilder();
        int n = 1 + upTo(6);
        for (int i = 0; i < n; i++) {
            text.append(" ".repeat(upTo(2))).append(form.charAt(upTo(form.length())));
            int words = upTo(3) == 0 ? upTo(64) : upTo(64) | upTo(64);
            text.append(words / 10).append(words % 10).append(upTo(rooms)).append(1 + upTo(breath));
        }
        if (upTo(4) == 0) text.setCharAt(upTo(text.length()), "vpx 069\u0000".charAt(upTo(8)));
        return text.toString();
    }

    private void newHouse() {
        String text = houseText();
        Desk.write(x, 0, text);
        calls += text.length() + 1;
        same("fault of '" + text + "'", x.fault(0), Plain.faultOf(text));
        same("house by '" + text + "'", x.house(0), y.house(text));
    }

    private void run() {
        newHouse();
        while (calls < 420) {
            if (calls < 200 && upTo(30) == 0) newHouse();
            if (y.history.isEmpty()) newHouse();
            else if (upTo(2) == 0) deed();
            else question();
            if (upTo(20) == 0) whole();
        }
    }

    private void deed() {
        int n = y.now().speakers().size();
        int i = upTo(n);
        int k = upTo(3);
        int room = upTo(6);
        int of = upTo(y.deeds() + 2) - 1;
        switch (upTo(16)) {
            case 0: same("end", x.end(), y.end()); break;
            case 1: same("hour", x.hour(), y.hour()); break;
            case 2: same("walk", x.walk(i, room), y.walk(i, room)); break;
            case 3: if (upTo(3) == 0) same("undo(" + of + ")", x.undo(of), y.undo(of)); break;
            case 4:
                same("keep", x.keep(k), y.deeds());
                y.kept.set(k, java.util.List.copyOf(y.history));
                break;
            case 5:
                same("on", x.on(k), y.kept.get(k).isEmpty() ? -3 : y.kept.get(k).size() - 1);
                if (!y.kept.get(k).isEmpty()) y.history = new java.util.ArrayList<>(y.kept.get(k));
                break;
            case 6:
                int lot = 1 + upTo(2147483646);
                int lots = 1 + upTo(9);
                same("lots", x.lots(lots, lot), y.lots(lots, lot));
                break;
            default: sayOne(); break;
        }
    }

    private void sayOne() {
        int n = y.now().speakers().size();
        int i = upTo(n);
        int word = upTo(6);
        for (int k = 0; k < 4 && !y.now().can(i, word); k++) {
            i = upTo(n);
            word = upTo(6);
        }
        same("say(" + i + ", " + word + ")", x.say(i, word), y.say(i, word));
    }

    private int[] words(int most) {
        int[] row = new int[upTo(most + 1)];
        int kinds = 1 + upTo(6);
        for (int k = 0; k < row.length; k++) row[k] = upTo(kinds);
        return row;
    }

    private int[] laid(int r, int[] row) {
        Desk.lay(x, r, row);
        calls += row.length + 1;
        if (row.length > 0) y.asked = 0;
        return row;
    }

    private void question() {
        switch (upTo(8)) {
            case 0: next(); break;
            case 1: rowsOfWords(); break;
            case 2: rowsOfWords(); break;
            case 3: all(); break;
            case 4: pairs(); break;
            case 5: triples(); break;
            case 6: far(); break;
            default: chances(); break;
        }
    }

    private void next() {
        int i = upTo(y.now().speakers().size());
        int word = upTo(6);
        int kind = 1 + upTo(5);
        int what = upTo(6);
        same("who", x.who(word), y.who(word));
        same("what", x.what(i), y.what(i));
        same("mark(" + i + ", " + kind + ")", x.mark(i, kind), y.mark(i, kind));
        y.tell(y.fact(i, what));
        same("speaker", x.speaker(i, what), 1);
        int k = upTo(y.now().order().size() + 1);
        boolean is = k < y.now().order().size();
        if (is) y.tell(y.now().order().get(k).by());
        same("said", x.said(k), is ? y.now().order().get(k).word() : -1);
    }

    private void rowsOfWords() {
        int[] row = laid(1, words(5));
        same("ways", x.ways(1), y.ways(row));
        int[] few = y.few(row);
        int to = 1 + upTo(2);
        same("few", x.few(1, to), few == null ? -9 : Integer.bitCount(Plain.setOf(few)));
        if (few != null) rowIs("few", to, few);
    }

    private void far() {
        int[] row = laid(1, words(5));
        int room = upTo(6);
        same("far", x.far(1), y.far(row));
        same("fourth", x.fourth(1, room), y.fourth(row, room));
        row = laid(1, words(8));
        same("off", x.off(1), y.off(row));
    }

    private void all() {
        int turns = upTo(4);
        same("dumb", x.dumb(), y.dumb());
        int[] longest = y.longest();
        same("longest", x.longest(3), longest.length);
        rowIs("longest", 3, longest);
        same("struck(" + turns + ")", x.struck(turns), Plain.struck(y.now(), turns));
    }

    private void rowIs(String call, int r, int[] row) {
        Desk.rowIs(x, "seed " + seed + ": " + call, r, row);
        calls += 2 * row.length + 1;
        if (row.length > 0) y.asked = row[row.length - 1];
    }

    private void pairs() {
        int[] row = words(5);
        int[] pairs = new int[2 * row.length];
        for (int k = 0; k < row.length; k++) {
            pairs[2 * k] = row[k];
            int i = upTo(y.now().speakers().size());
            pairs[2 * k + 1] = upTo(5) == 0 ? upTo(6) : y.now().speakers().get(i).room();
        }
        laid(2, pairs);
        same("heard", x.heard(2), y.heard(pairs));
        same("sure", x.sure(2), y.sure(pairs));
    }

    private void triples() {
        int i = upTo(y.now().speakers().size());
        int[] triples = new int[3 * upTo(4)];
        Plain.Speaker s = y.now().speakers().get(i).as("vpsnmc".charAt(upTo(6)));
        for (int p = 0; p < triples.length; p += 3) {
            triples[p] = upTo(4) == 0 ? -9 : upTo(6);
            triples[p + 1] = upTo(2) == 0 && triples[p] >= 0 ? (triples[p] + upTo(2)) % 6 : upTo(6);
            triples[p + 2] = y.now().able(s, triples[p], triples[p + 1]) == (upTo(12) > 0) ? 1 : 0;
        }
        laid(4, triples);
        same("kinds", x.kinds(i, 4), y.kinds(i, triples));
        same("test", x.test(i, 4), y.test(i, triples));
    }

    private void chances() {
        int[] row = laid(1, words(4));
        int p = upTo(13);
        same("odds", x.odds(1, p), y.chances(row, p, false));
        same("mid", x.mid(1, p), y.chances(row, p, true));
    }

    /** The state as a whole, as it is told. */
    private void whole() {
        int[] counts = y.counts();
        for (int what = 0; what < counts.length; what++) {
            Desk.due("seed " + seed + ": count(" + what + ")", x.count(what), counts[what]);
        }
        int kept = 0;
        for (int k = 0; k < 3; k++) if (!y.kept.get(k).isEmpty()) kept++;
        Desk.due("seed " + seed + ": count(10)", x.count(10), kept);
        calls += 9;
    }
}
