/** Promises 14 to 23. */
public final class DeedsTest {
    private static final int BAD = HerOrders.BAD, FULL = HerOrders.FULL, STATE = HerOrders.STATE;
    private static final int NOTHING = 1;

    public static void main(String[] args) {
        say();
        whoCanSay();
        end();
        hour();
        walk();
        undo();
        keep();
        on();
        who();
        what();
        said();
        Desk.finish();
    }

    private static void say() {
        HerOrders x = Desk.houseOf("v6319 v6329");
        Desk.due("say(0, 5)", x.say(0, 5), 1);
        Desk.refused(x, "one who said the last", () -> x.say(0, 4), STATE);
        for (int k = 1; k < 8; k++) Desk.due("say", x.say(k % 2, 5), k + 1);
        Desk.refused(x, "a ninth WORD", () -> x.say(0, 5), STATE);
        Desk.refused(x, "say(2, 0)", () -> x.say(2, 0), BAD);
        Desk.refused(x, "say(-1, 0)", () -> x.say(-1, 0), BAD);
        Desk.refused(x, "say(0, 6)", () -> x.say(0, 6), BAD);
        Desk.refused(x, "say(0, -1)", () -> x.say(0, -1), BAD);
        Desk.due("count(2)", x.count(2), 8);
        Desk.due("count(5)", x.count(5), 10);
        x.end();
        for (int k = 0; k < 31; k++) x.hour();
        Desk.refused(x, "a 41st DEED", () -> x.say(0, 5), FULL);
        HerOrders y = Desk.houseOf("v0119");
        for (int k = 0; k < 40; k++) y.hour();
        Desk.refused(y, "one who can't, ahead of FULL", () -> y.say(0, 5), STATE);
        HerOrders z = new HerOrders();
        Desk.refused(z, "say of none", () -> z.say(0, 0), BAD);
    }

    private static void whoCanSay() {
        HerOrders x = Desk.houseOf("v0109 p0109 s0119 n0329 m3319 c0109");
        Desk.refused(x, "a WORD one has not", () -> x.say(0, 1), STATE);
        Desk.refused(x, "a PARROT at first", () -> x.say(1, 1), STATE);
        Desk.refused(x, "a NEPHEW at first", () -> x.say(3, 0), STATE);
        Desk.refused(x, "a MAID at first", () -> x.say(4, 5), STATE);
        Desk.due("a STAIR in HOUR 0", x.say(2, 0), 1);
        Desk.refused(x, "a MAID, an even number", () -> x.say(4, 0), STATE);
        Desk.due("a MAID, an odd number", x.say(4, 5), 2);
        Desk.refused(x, "a PARROT, neither the last nor one he has", () -> x.say(1, 1), STATE);
        Desk.due("a CAGE, 0 behind 5", x.say(5, 0), 3);
        Desk.refused(x, "a NEPHEW two ROOMS on", () -> x.say(3, 1), STATE);
        x.walk(3, 1);
        Desk.due("a NEPHEW beside", x.say(3, 1), 4);
        Desk.due("a PARROT, the last", x.say(1, 1), 5);
        Desk.due("a CAGE, behind the last", x.say(5, 2), 6);
        x.hour();
        Desk.refused(x, "a STAIR in HOUR 1", () -> x.say(2, 0), STATE);
        x.hour();
        Desk.due("a STAIR in HOUR 2", x.say(2, 0), 7);
        x.walk(2, 3);
        Desk.refused(x, "the one said last has gone", () -> x.say(0, 0), STATE);
        x.walk(2, 1);
        Desk.due("and comes back", x.say(0, 0), 8);
        x.end();
        Desk.refused(x, "a PARROT, the last of the ORDER ahead", () -> x.say(1, 5), STATE);
        Desk.due("the same one begins the next", x.say(0, 0), 1);
        HerOrders y = Desk.houseOf("v0101 v0109");
        y.say(0, 0);
        y.say(1, 0);
        Desk.refused(y, "no BREATH left", () -> y.say(0, 0), STATE);
        y.end();
        Desk.refused(y, "no BREATH left, the next ORDER", () -> y.say(0, 0), STATE);
        y.hour();
        Desk.due("BREATH again", y.say(0, 0), 1);
        HerOrders z = Desk.houseOf("v0101 v0159");
        z.say(0, 0);
        Desk.refused(z, "five ROOMS on", () -> z.say(1, 0), STATE);
        z.end();
        Desk.due("the first of an ORDER anywhere", z.say(1, 0), 1);
    }

    private static void end() {
        HerOrders x = Desk.houseOf("v6319 p6319");
        Desk.refused(x, "end of none", x::end, STATE);
        x.say(0, 1);
        x.say(1, 1);
        Desk.due("end()", x.end(), 2);
        Desk.due("count(3)", x.count(3), 0);
        Desk.due("count(4)", x.count(4), 1);
        Desk.due("count(5)", x.count(5), 16);
        x.say(0, 1);
        for (int k = 0; k < 36; k++) x.hour();
        Desk.due("40 DEEDS", x.count(2), 40);
        Desk.refused(x, "a 41st DEED", x::end, FULL);
        HerOrders y = Desk.houseOf("v6319");
        for (int k = 0; k < 40; k++) y.hour();
        Desk.refused(y, "end of none, ahead of FULL", y::end, STATE);
        HerOrders z = new HerOrders();
        Desk.refused(z, "end of no house", z::end, STATE);
    }

    private static void hour() {
        HerOrders x = Desk.houseOf("v6312 p6313");
        x.say(0, 1);
        x.say(1, 1);
        Desk.due("hour()", x.hour(), 1);
        Desk.due("BREATH again", x.count(5), 5);
        Desk.due("the ORDER goes on", x.count(3), 2);
        Desk.told(x, "the ORDER's WORDS", x.speaker(1, 5), 1);
        for (int k = 2; k <= 38; k++) Desk.due("hour()", x.hour(), k);
        Desk.refused(x, "a 41st DEED", x::hour, FULL);
        HerOrders y = new HerOrders();
        Desk.refused(y, "hour of no house", y::hour, STATE);
    }

    private static void walk() {
        HerOrders x = Desk.houseOf("v6312 p6353");
        Desk.due("walk(0, 5)", x.walk(0, 5), 4);
        Desk.due("walk(1, 0)", x.walk(1, 0), 5);
        Desk.told(x, "ROOM", x.speaker(0, 2), 5);
        Desk.refused(x, "walk to where one is", () -> x.walk(0, 5), STATE);
        Desk.refused(x, "walk(0, 6)", () -> x.walk(0, 6), BAD);
        Desk.refused(x, "walk(0, -1)", () -> x.walk(0, -1), BAD);
        Desk.refused(x, "walk(2, 0)", () -> x.walk(2, 0), BAD);
        for (int k = 0; k < 38; k++) x.walk(0, k % 2);
        Desk.refused(x, "a 41st DEED", () -> x.walk(0, 5), FULL);
        Desk.refused(x, "where one is, ahead of FULL", () -> x.walk(0, 1), STATE);
    }

    private static void undo() {
        HerOrders x = Desk.houseOf("v6312 v6322");
        long first = x.digest();
        x.say(0, 3);
        long second = x.digest();
        x.hour();
        x.walk(0, 2);
        x.say(1, 4);
        long fifth = x.digest();
        x.end();
        x.say(1, 5);
        Desk.refused(x, "undo(7)", () -> x.undo(7), BAD);
        Desk.refused(x, "undo(-1)", () -> x.undo(-1), BAD);
        Desk.due("undo(6)", x.undo(6), 0);
        Desk.due("undo(4)", x.undo(4), 2);
        Desk.due("as behind the fourth", x.digest(), fifth);
        Desk.due("undo(1)", x.undo(1), 3);
        Desk.due("as behind the first", x.digest(), second);
        Desk.told(x, "BREATH as ahead of the HOUR", x.speaker(0, 4), 1);
        Desk.due("undo(0)", x.undo(0), 1);
        Desk.due("as at first", x.digest(), first);
        Desk.due("undo(0) of none", x.undo(0), 0);
        HerOrders y = new HerOrders();
        Desk.due("undo(0) of no house", y.undo(0), 0);
        Desk.refused(y, "undo(1) of no house", () -> y.undo(1), BAD);
    }

    private static void keep() {
        HerOrders x = Desk.houseOf("v6312 v6322");
        Desk.due("keep(0)", x.keep(0), 0);
        x.say(0, 1);
        Desk.due("keep(2)", x.keep(2), 1);
        Desk.due("count(10)", x.count(10), 2);
        x.say(1, 1);
        Desk.due("keep(2) again", x.keep(2), 2);
        Desk.due("count(10)", x.count(10), 2);
        x.undo(0);
        Desk.due("on(2)", x.on(2), 2);
        Desk.refused(x, "keep(3)", () -> x.keep(3), BAD);
        Desk.refused(x, "keep(-1)", () -> x.keep(-1), BAD);
        HerOrders y = new HerOrders();
        Desk.refused(y, "keep of no house", () -> y.keep(1), STATE);
        HerOrders z = Desk.houseOf("v6312");
        for (int k = 0; k < 40; k++) z.hour();
        Desk.due("keep of 40 DEEDS", z.keep(1), 40);
        z.undo(0);
        Desk.due("on to 40 DEEDS", z.on(1), 40);
        Desk.due("the HOUR of 40 DEEDS", z.count(1), 40);
        Desk.refused(z, "a 41st DEED of a kept HOUSE", z::hour, FULL);
    }

    private static void on() {
        HerOrders x = Desk.houseOf("v6312 v6322");
        x.say(0, 1);
        x.hour();
        x.walk(1, 1);
        x.keep(1);
        long kept = x.digest();
        x.say(1, 1);
        x.end();
        x.hour();
        Desk.due("on(1)", x.on(1), 3);
        Desk.due("as kept", x.digest(), kept);
        Desk.due("undo of kept DEEDS", x.undo(1), 2);
        Desk.told(x, "ROOM ahead of these", x.speaker(1, 2), 2);
        Desk.due("on(1) again", x.on(1), 3);
        Desk.due("as kept", x.digest(), kept);
        x.undo(0);
        x.walk(0, 4);
        x.say(1, 2);
        x.keep(0);
        x.say(1, 2);
        x.hour();
        Desk.due("on(1) when all was done otherwise", x.on(1), 3);
        x.undo(3);
        Desk.told(x, "the ROOM as kept", x.speaker(1, 2), 1);
        Desk.due("the WORD as kept", x.said(0), 1);
        Desk.due("who said it as kept", x.asked(), 0);
        Desk.due("on(0), another place", x.on(0), 2);
        Desk.due("the WORD kept there", x.said(0), 2);
        Desk.due("the HOUR kept there", x.count(1), 0);
        Desk.refused(x, "on(3)", () -> x.on(3), BAD);
        Desk.refused(x, "on(-1)", () -> x.on(-1), BAD);
        Desk.found(x, "on(2)", () -> x.on(2), NOTHING);
    }

    private static void who() {
        HerOrders x = Desk.houseOf("v0709 p0119 s0219 n0329 m0219 c0109");
        Desk.due("who(0)", x.who(0), 1 + 2 + 32);
        Desk.due("who(1)", x.who(1), 1 + 4);
        Desk.due("who(5)", x.who(5), 0);
        x.say(0, 1);
        Desk.due("who(0) behind 1", x.who(0), 2 + 32);
        Desk.due("who(1) behind 1", x.who(1), 2 + 4 + 16 + 32);
        Desk.due("who(2) behind 1", x.who(2), 32);
        Desk.refused(x, "who(6)", () -> x.who(6), BAD);
        Desk.refused(x, "who(-1)", () -> x.who(-1), BAD);
        Desk.due("who of no house", new HerOrders().who(3), 0);
    }

    private static void what() {
        HerOrders x = Desk.houseOf("v0709 p0119 s0219 n0329 m0219 c0109");
        int[] first = {7, 1, 2, 0, 0, 1};
        for (int i = 0; i < 6; i++) Desk.due("what(" + i + ")", x.what(i), first[i]);
        x.say(0, 1);
        int[] then = {0, 3, 2, 0, 2, 7};
        for (int i = 0; i < 6; i++) Desk.due("what(" + i + ") then", x.what(i), then[i]);
        Desk.refused(x, "what(6)", () -> x.what(6), BAD);
        Desk.refused(x, "what(-1)", () -> x.what(-1), BAD);
    }

    private static void said() {
        HerOrders x = Desk.houseOf("v6319 v6319 p6319");
        x.say(2, 4);
        x.say(1, 0);
        Desk.due("said(0)", x.said(0), 4);
        Desk.due("asked()", x.asked(), 2);
        Desk.due("said(1)", x.said(1), 0);
        Desk.due("asked()", x.asked(), 1);
        Desk.refused(x, "said(2)", () -> x.said(2), BAD);
        Desk.refused(x, "said(-1)", () -> x.said(-1), BAD);
        x.end();
        Desk.refused(x, "said(0) of none", () -> x.said(0), BAD);
    }
}
