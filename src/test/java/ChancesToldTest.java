/** Promises 36 to 45. */
public final class ChancesToldTest {
    private static final int BAD = HerOrders.BAD, FULL = HerOrders.FULL, STATE = HerOrders.STATE;
    private static final int NOTHING = 1, UNLIKE = 3, SIZE = 5;

    public static void main(String[] args) {
        odds();
        mid();
        refusalsOfChances();
        lots();
        asked();
        upperAndLower();
        count();
        findings();
        digest();
        Desk.finish();
    }

    private static void odds() {
        HerOrders x = Desk.houseOf("v0119 v0319 v0319");
        Desk.lay(x, 0, 1);
        Desk.shared(x, "odds, one of two speaks", x.odds(0, 4), 8, 9);
        Desk.lay(x, 0, 0, 0);
        Desk.shared(x, "odds, two of three speak", x.odds(0, 6), 1, 2);
        Desk.lay(x, 0, 0, 1);
        Desk.shared(x, "odds of all speaking", x.odds(0, 0), 1, 1);
        Desk.shared(x, "odds of all silent", x.odds(0, 12), 0, 1);
        Desk.shared(x, "odds, 11 of 12", x.odds(0, 11), 17, 864);
    }

    private static void mid() {
        HerOrders x = Desk.houseOf("v0119 v0319 v0319");
        Desk.lay(x, 0, 1, 1);
        Desk.shared(x, "mid", x.mid(0, 6), 1, 1);
        Desk.shared(x, "mid of all speaking", x.mid(0, 0), 2, 1);
        Desk.shared(x, "mid of all silent", x.mid(0, 12), 0, 1);
        Desk.lay(x, 0, 1, 5, 1);
        Desk.shared(x, "mid, the first alone", x.mid(0, 4), 8, 9);
        x.row(0, 0);
        Desk.shared(x, "mid of no WORDS", x.mid(0, 4), 0, 1);
        Desk.shared(x, "odds of no WORDS", x.odds(0, 12), 1, 1);
    }

    private static void refusalsOfChances() {
        HerOrders none = new HerOrders();
        Desk.refused(none, "odds(0, 13) of no house", () -> none.odds(0, 13), BAD);
        Desk.refused(none, "odds of no house", () -> none.odds(0, 0), STATE);
        Desk.refused(none, "mid(0, -1) of no house", () -> none.mid(0, -1), BAD);
        Desk.refused(none, "mid of no house", () -> none.mid(0, 0), STATE);
        HerOrders x = Desk.houseOf("v0119");
        Desk.refused(x, "odds(6, 0)", () -> x.odds(6, 0), BAD);
        Desk.refused(x, "odds(0, -1)", () -> x.odds(0, -1), BAD);
        Desk.refused(x, "mid(-1, 0)", () -> x.mid(-1, 0), BAD);
        Desk.refused(x, "mid(0, 13)", () -> x.mid(0, 13), BAD);
        Desk.found(x, "odds of a missing ROW", () -> x.odds(0, 0), NOTHING);
        Desk.found(x, "mid of a missing ROW", () -> x.mid(0, 0), NOTHING);
        Desk.lay(x, 0, 6, 0, 0, 0, 0, 0);
        Desk.found(x, "odds of 6", () -> x.odds(0, 0), SIZE);
        Desk.found(x, "mid of 6", () -> x.mid(0, 0), SIZE);
        Desk.lay(x, 0, 0, 6);
        Desk.found(x, "odds of no WORD", () -> x.odds(0, 0), UNLIKE);
        Desk.found(x, "mid of no WORD", () -> x.mid(0, 0), UNLIKE);
    }

    /** What lots() ought to do, by single DEEDS; it answers with the digest then. */
    private static long byHand(HerOrders x, int n, long seed) {
        long lot = seed;
        for (int k = 0; k < n; k++) {
            lot = lot * 48271 % 2147483647;
            int i = (int) (lot / 8 % x.count(0));
            int word = (int) (lot / 64 % 6);
            if ((x.what(i) >> word & 1) == 1) x.say(i, word);
            else if (x.count(3) >= 4) x.end();
            else x.hour();
        }
        return x.digest();
    }

    private static void lots() {
        String text = "v6319 p6329 s6319 n6329 c6319";
        int[] seeds = {1, 2, 77, 48271, 31337, 2147483646};
        for (int seed : seeds) {
            HerOrders x = Desk.houseOf(text);
            HerOrders y = Desk.houseOf(text);
            int words = x.lots(20, seed);
            Desk.due("lots by hand", byHand(y, 20, seed), x.digest());
            Desk.due("lots' WORDS", words, x.count(3));
            Desk.due("lots' DEEDS", x.count(2), 20);
            x.lots(19, seed);
            Desk.refused(x, "lots beyond 40 DEEDS", () -> x.lots(2, 1), FULL);
            Desk.due("lots to 40 DEEDS", x.lots(1, 1), x.count(3));
            Desk.refused(x, "lots at 40 DEEDS", () -> x.lots(1, 1), FULL);
        }
        HerOrders x = Desk.houseOf("v6319");
        Desk.refused(x, "lots(0, 1)", () -> x.lots(0, 1), BAD);
        Desk.refused(x, "lots(21, 1)", () -> x.lots(21, 1), BAD);
        Desk.refused(x, "lots(1, 0)", () -> x.lots(1, 0), BAD);
        Desk.refused(x, "lots(1, -1)", () -> x.lots(1, -1), BAD);
        Desk.refused(x, "lots(1, MAX)", () -> x.lots(1, Integer.MAX_VALUE), BAD);
        HerOrders y = new HerOrders();
        Desk.refused(y, "lots of no house", () -> y.lots(1, 1), STATE);
        Desk.refused(y, "lots(0, 1) of no house", () -> y.lots(0, 1), BAD);
    }

    private static void asked() {
        HerOrders x = Desk.houseOf("v0119 v0319");
        Desk.due("asked() at first", x.asked(), 0);
        Desk.lay(x, 0, 1, 0, 1);
        x.speaker(0, 2);
        Desk.due("asked() by speaker", x.asked(), 1);
        x.speaker(0, 9);
        x.ways(3);
        x.mark(0, 1);
        x.who(1);
        x.count(5);
        x.copy(0, 0, 0, 0, 1);
        x.odds(0, 1);
        x.mid(0, 1);
        x.off(0);
        x.struck(2);
        x.few(0, 1);
        x.longest(1);
        x.digest();
        Desk.due("asked() stays", x.asked(), 1);
    }

    private static void upperAndLower() {
        HerOrders x = Desk.houseOf("v0119 v0319");
        Desk.due("upper() at first", x.upper(), 0);
        Desk.due("lower() at first", x.lower(), 1);
        Desk.lay(x, 0, 1);
        x.odds(0, 3);
        Desk.due("upper()", x.upper(), 3);
        Desk.due("lower()", x.lower(), 4);
        x.far(0);
        x.few(0, 1);
        x.sure(2);
        x.odds(0, 13);
        Desk.due("upper() stays", x.upper(), 3);
        Desk.due("lower() stays", x.lower(), 4);
        x.ways(0);
        Desk.due("upper() by ways", x.upper(), 1);
        Desk.due("lower() by ways", x.lower(), 1);
    }

    private static void count() {
        HerOrders x = Desk.houseOf("p0119 c0319 v3212");
        x.say(1, 0);
        x.end();
        x.hour();
        x.say(1, 1);
        x.row(0, 0);
        x.row(3, 1);
        x.text(1, 0);
        x.keep(1);
        int[] due = {3, 1, 4, 1, 1, 9 + 8 + 2, 1 + 2 + 32, 2, 2, 2, 1};
        for (int what = 0; what < due.length; what++) Desk.due("count(" + what + ")", x.count(what), due[what]);
        Desk.refused(x, "count(11)", () -> x.count(11), BAD);
        Desk.refused(x, "count(-1)", () -> x.count(-1), BAD);
    }

    private static void findings() {
        HerOrders x = Desk.houseOf("v0119");
        Desk.due("finding() at first", x.finding(), 0);
        for (int f = 1; f <= 5; f++) Desk.due("findings at first", x.findings(f), 0);
        x.row(0, -1);
        x.at(0, 0);
        x.row(0, 0);
        x.at(0, 0);
        x.at(0, 0);
        Desk.due("finding()", x.finding(), 2);
        x.mean(0);
        x.mark(0, 1);
        Desk.due("finding()", x.finding(), 3);
        int[] due = {1, 2, 1, 1, 1};
        for (int f = 1; f <= 5; f++) Desk.due("findings(" + f + ")", x.findings(f), due[f - 1]);
        x.row(9, 9);
        x.end();
        Desk.due("finding() stays", x.finding(), 3);
        Desk.refused(x, "findings(0)", () -> x.findings(0), BAD);
        Desk.refused(x, "findings(6)", () -> x.findings(6), BAD);
    }

    private static long mixed(long h, long... values) {
        for (long v : values) h = 31 * h + v;
        return h;
    }

    private static void digest() {
        long h = mixed(17, 0, 0, 0, 0, 0, 0, 0, 0, 0, 0, 0, -1, -1, -1);
        Desk.due("digest of a new object", new HerOrders().digest(), mixed(h, -1, -1, -1, -1, -1, -1, -1, -1, -1, -1));
        HerOrders x = Desk.houseOf("v0312 c0123");
        x.say(1, 0);
        x.say(0, 1);
        x.keep(2);
        x.hour();
        x.walk(1, 5);
        Desk.lay(x, 1, -7, 8);
        x.text(3, 1);
        x.put(3, 0, 200);
        int asked = x.asked();
        h = mixed(17, 2, 1, 4, 2, 0, 5, 0, 1, 1, 2, 1);
        h = mixed(h, 0, 1, 1, 0);
        h = mixed(h, 0, 3, 1, 2, 2, 1, 5, 1, 5, 3, 3, 1);
        h = mixed(h, -1, -1, 2, -1, 2, -7, 8, -1, -1, -1, -1);
        h = mixed(h, 11, 'v', '0', '3', '1', '2', ' ', 'c', '0', '1', '2', '3', -1, -1, 1, -56);
        Desk.due("digest()", x.digest(), h);
        Desk.due("asked() stays", x.asked(), asked);
    }
}
