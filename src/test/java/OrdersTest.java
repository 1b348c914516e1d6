/** Promises 24 to 30. */
public final class OrdersTest {
    private static final int BAD = HerOrders.BAD, STATE = HerOrders.STATE, NONE = HerOrders.NONE;
    private static final int NOTHING = 1, UNLIKE = 3, NOUGHT = 4, SIZE = 5;

    public static void main(String[] args) {
        ways();
        few();
        far();
        refusalsOfWords();
        dumb();
        longest();
        heard();
        sure();
        refusalsOfPairs();
        Desk.finish();
    }

    private static void ways() {
        HerOrders x = Desk.houseOf("v0319 v0319 v0119");
        Desk.lay(x, 0);
        Desk.shared(x, "ways of no WORDS", x.ways(0), 1, 1);
        Desk.due("asked()", x.asked(), 0);
        Desk.lay(x, 0, 0, 1);
        Desk.shared(x, "ways of 0 1", x.ways(0), 4, 1);
        Desk.due("asked()", x.asked(), 0);
        Desk.lay(x, 0, 1, 1);
        Desk.shared(x, "ways of 1 1", x.ways(0), 2, 1);
        Desk.due("asked()", x.asked(), 3);
        Desk.lay(x, 0, 1, 0, 1, 2);
        Desk.shared(x, "ways with a WORD that none has", x.ways(0), 0, 1);
        Desk.due("asked()", x.asked(), 0);
        x.say(0, 1);
        Desk.lay(x, 0, 1);
        Desk.shared(x, "ways behind a WORD said", x.ways(0), 1, 1);
        Desk.due("asked()", x.asked(), 2);
        Desk.due("nothing is said", x.count(3), 1);
        HerOrders y = Desk.houseOf("v6319 v6319 v6319 v6319 v6319 v6319");
        Desk.lay(y, 0, 0, 1, 2, 3, 4);
        Desk.shared(y, "ways, the most", y.ways(0), 6 * 5 * 5 * 5 * 5, 1);
        for (int k = 0; k < 6; k++) y.say(k % 2, 0);
        Desk.lay(y, 0, 0, 1);
        Desk.shared(y, "ways to the 8th WORD", y.ways(0), 25, 1);
        Desk.lay(y, 0, 0, 1, 2);
        Desk.shared(y, "ways beyond the 8th WORD", y.ways(0), 0, 1);
        HerOrders z = Desk.houseOf("v0312 v0311");
        Desk.lay(z, 0, 0, 1, 0);
        Desk.shared(z, "ways by BREATH", z.ways(0), 1, 1);
        Desk.lay(z, 0, 0, 1, 0, 1);
        Desk.shared(z, "ways without BREATH", z.ways(0), 0, 1);
    }

    private static void few() {
        HerOrders x = Desk.houseOf("v0119 v0219 v0319 v0319");
        Desk.lay(x, 0, 0, 1, 0);
        Desk.due("few(0, 5)", x.few(0, 5), 2);
        Desk.rowIs(x, "few", 5, 0, 1, 0);
        Desk.lay(x, 0, 0, 0, 1, 1);
        Desk.due("few of 0 0 1 1", x.few(0, 0), 2);
        Desk.rowIs(x, "few to the same", 0, 2, 3, 2, 3);
        Desk.lay(x, 0, 5);
        Desk.lay(x, 1, 7, 7, 7);
        Desk.due("few of none", x.few(0, 1), NONE);
        Desk.rowIs(x, "few of none", 1, 7, 7, 7);
        Desk.lay(x, 0);
        Desk.due("few of no WORDS", x.few(0, 1), 0);
        Desk.rowIs(x, "few of no WORDS", 1);
        Desk.due("asked() is not told", x.asked(), 7);
        Desk.refused(x, "few(0, 6)", () -> x.few(0, 6), BAD);
        Desk.refused(x, "few(0, -1)", () -> x.few(0, -1), BAD);
        Desk.refused(x, "few(2, 6)", () -> x.few(2, 6), BAD);
    }

    private static void far() {
        HerOrders x = Desk.houseOf("v0319 v0319 v0119");
        Desk.lay(x, 0, 1, 0, 5, 1);
        Desk.due("far(0)", x.far(0), 2);
        Desk.due("asked()", x.asked(), 4);
        Desk.lay(x, 0, 1, 0);
        Desk.due("far, all", x.far(0), 2);
        Desk.lay(x, 0, 5, 1);
        Desk.due("far, none", x.far(0), 0);
        Desk.due("asked()", x.asked(), 1);
    }

    private static void refusalsOfWords() {
        HerOrders none = new HerOrders();
        Desk.refused(none, "ways of no house", () -> none.ways(0), STATE);
        Desk.refused(none, "ways(6) of no house", () -> none.ways(6), BAD);
        Desk.refused(none, "few of no house", () -> none.few(0, 0), STATE);
        Desk.refused(none, "few(0, 6) of no house", () -> none.few(0, 6), BAD);
        Desk.refused(none, "far of no house", () -> none.far(0), STATE);
        Desk.refused(none, "far(-1)", () -> none.far(-1), BAD);
        HerOrders x = Desk.houseOf("v0319 v0319 v0119");
        Desk.found(x, "ways of a missing ROW", () -> x.ways(0), NOTHING);
        Desk.found(x, "few of a missing ROW", () -> x.few(0, 1), NOTHING);
        Desk.found(x, "far of a missing ROW", () -> x.far(0), NOTHING);
        Desk.lay(x, 0, 6, 6, 6, 6, 6, 6);
        Desk.found(x, "ways of 6", () -> x.ways(0), SIZE);
        Desk.found(x, "few of 6", () -> x.few(0, 1), SIZE);
        Desk.found(x, "far of 6", () -> x.far(0), SIZE);
        Desk.lay(x, 0, 0, 6);
        Desk.found(x, "ways of no WORD", () -> x.ways(0), UNLIKE);
        Desk.found(x, "few of no WORD", () -> x.few(0, 1), UNLIKE);
        Desk.found(x, "far of no WORD", () -> x.far(0), UNLIKE);
        Desk.lay(x, 0, -1);
        Desk.found(x, "ways of -1", () -> x.ways(0), UNLIKE);
        Desk.lay(x, 0, 0, 9);
        Desk.lay(x, 0, 0);
        Desk.shared(x, "ways of a shorter ROW where a longer one was", x.ways(0), 3, 1);
    }

    private static void dumb() {
        HerOrders x = Desk.houseOf("v6219 v6319");
        Desk.due("dumb()", x.dumb(), 2);
        Desk.due("asked()", x.asked(), 0);
        HerOrders y = Desk.houseOf("v5519 v5519");
        Desk.due("dumb, 3 is missing", y.dumb(), 1);
        Desk.due("asked()", y.asked(), 3);
        HerOrders z = Desk.houseOf("v6319 v6319");
        z.row(0, 1);
        z.lay(0, 0, 77);
        z.at(0, 0);
        Desk.due("dumb, none", z.dumb(), NONE);
        Desk.due("asked() stays", z.asked(), 77);
        HerOrders u = Desk.houseOf("v6311 v6311 v4711");
        Desk.due("dumb, a row of 3", u.dumb(), 3);
        Desk.due("4 4 4", u.asked(), 4 * 36 + 4 * 6 + 4);
        HerOrders w = Desk.houseOf("v6311 p0111 n6311");
        Desk.due("dumb, by a PARROT and a NEPHEW", w.dumb(), 3);
        Desk.due("1 2 1", w.asked(), 36 + 2 * 6 + 1);
        HerOrders v = new HerOrders();
        Desk.refused(v, "dumb of no house", v::dumb, STATE);
    }

    private static void longest() {
        HerOrders x = Desk.houseOf("v6219 p0219");
        Desk.due("longest(0)", x.longest(0), 4);
        Desk.rowIs(x, "longest", 0, 1, 1, 1, 1);
        HerOrders y = Desk.houseOf("v0411 v3012 n1213");
        Desk.due("longest by BREATH", y.longest(5), 4);
        Desk.rowIs(y, "longest by BREATH", 5, 1, 2, 1, 2);
        HerOrders z = Desk.houseOf("v0412 v3241");
        Desk.lay(z, 1, 9, 9, 9);
        Desk.due("longest, apart", z.longest(1), 1);
        Desk.rowIs(z, "longest, apart", 1, 2);
        HerOrders u = Desk.houseOf("v6319 v6319");
        for (int k = 0; k < 6; k++) u.say(k % 2, 3);
        Desk.due("longest to the 8th WORD", u.longest(0), 2);
        Desk.rowIs(u, "longest to the 8th WORD", 0, 0, 0);
        u.say(0, 0);
        u.say(1, 0);
        Desk.due("longest of none", u.longest(0), 0);
        Desk.rowIs(u, "longest of none", 0);
        Desk.refused(u, "longest(6)", () -> u.longest(6), BAD);
        Desk.refused(u, "longest(-1)", () -> u.longest(-1), BAD);
        HerOrders v = new HerOrders();
        Desk.refused(v, "longest of no house", () -> v.longest(0), STATE);
        Desk.refused(v, "longest(6) of no house", () -> v.longest(6), BAD);
    }

    private static void heard() {
        HerOrders x = Desk.houseOf("v0319 v0329 v0319 v0309");
        Desk.lay(x, 0, 0, 1, 1, 2);
        Desk.shared(x, "heard 0 in 1, 1 in 2", x.heard(0), 2, 1);
        Desk.due("asked()", x.asked(), 0);
        Desk.lay(x, 0, 0, 2, 1, 1, 0, 2);
        Desk.shared(x, "heard in 2, 1, 2", x.heard(0), 2, 1);
        Desk.due("asked()", x.asked(), 1);
        Desk.lay(x, 0, 0, 2, 1, 0);
        Desk.shared(x, "heard too far off", x.heard(0), 0, 1);
        Desk.due("asked()", x.asked(), NONE);
        x.row(0, 0);
        Desk.shared(x, "heard nothing", x.heard(0), 1, 1);
        Desk.due("asked()", x.asked(), NONE);
        x.walk(0, 0);
        Desk.lay(x, 0, 0, 1);
        Desk.shared(x, "heard where they are now", x.heard(0), 1, 1);
        Desk.due("asked()", x.asked(), 2);
        HerOrders y = Desk.houseOf("v6319 v6319 v6319 v6319 v6319 v6319");
        Desk.lay(y, 0, 0, 1, 1, 1, 2, 1, 3, 1, 4, 1);
        Desk.shared(y, "heard five", y.heard(0), 3750, 1);
    }

    private static void sure() {
        HerOrders x = Desk.houseOf("v0319 v0329 v0319 v0309");
        Desk.lay(x, 0, 0, 2, 1, 1);
        Desk.due("sure", x.sure(0), 2);
        Desk.due("asked(), those in none", x.asked(), 8);
        x.row(0, 0);
        Desk.due("sure of nothing", x.sure(0), 0);
        Desk.due("asked(), all", x.asked(), 15);
        Desk.lay(x, 0, 0, 5);
        Desk.found(x, "sure of no WAY", () -> x.sure(0), NOUGHT);
    }

    private static void refusalsOfPairs() {
        HerOrders none = new HerOrders();
        Desk.refused(none, "heard(6) of no house", () -> none.heard(6), BAD);
        Desk.refused(none, "heard of no house", () -> none.heard(0), STATE);
        Desk.refused(none, "sure(6) of no house", () -> none.sure(6), BAD);
        Desk.refused(none, "sure of no house", () -> none.sure(0), STATE);
        HerOrders x = Desk.houseOf("v0319 v0329");
        Desk.found(x, "heard of a missing ROW", () -> x.heard(0), NOTHING);
        Desk.found(x, "sure of a missing ROW", () -> x.sure(0), NOTHING);
        x.row(0, 3);
        Desk.found(x, "heard of 3", () -> x.heard(0), SIZE);
        Desk.found(x, "sure of 3", () -> x.sure(0), SIZE);
        x.row(0, 12);
        x.lay(0, 0, 6);
        Desk.found(x, "heard of 12", () -> x.heard(0), SIZE);
        Desk.found(x, "sure of 12", () -> x.sure(0), SIZE);
        Desk.lay(x, 0, 0, 1, 6, 1);
        Desk.found(x, "heard of no WORD", () -> x.heard(0), UNLIKE);
        Desk.found(x, "sure of no WORD", () -> x.sure(0), UNLIKE);
        Desk.lay(x, 0, 0, 6);
        Desk.found(x, "heard of no ROOM", () -> x.heard(0), UNLIKE);
        Desk.lay(x, 0, 0, -9);
        Desk.found(x, "sure of no ROOM", () -> x.sure(0), UNLIKE);
        Desk.lay(x, 1, 0, 6);
        Desk.found(x, "heard of no ROOM, a new ROW", () -> x.heard(1), UNLIKE);
        Desk.lay(x, 2, 0, 1, 0, 7);
        Desk.found(x, "heard of no ROOM behind a ROOM", () -> x.heard(2), UNLIKE);
        Desk.lay(x, 0, 0, 1, 9, 9);
        Desk.lay(x, 0, 0, 1);
        Desk.shared(x, "heard, a shorter ROW where a longer one was", x.heard(0), 1, 1);
    }
}
