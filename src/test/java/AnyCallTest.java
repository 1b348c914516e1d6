import java.util.Random;

/** No call throws or fails to end, whatever its arguments; refusals change nothing, and runs are repeatable. */
public final class AnyCallTest {
    private static final int[] EDGES = {Integer.MIN_VALUE, Integer.MIN_VALUE + 1, -1001, -10, -9, -8, -2, -1, 6, 7, 8,
        9, 10, 12, 13, 20, 21, 39, 40, 41, 60, 61, 63, 64, 511, 512, Integer.MAX_VALUE - 1, Integer.MAX_VALUE};
    private static final int CALLS = 41;
    /** With what furnish() and the comparisons call, some 500 calls of one object: more are not promised. */
    private static final int STEPS = 100;

    private final Random chance;
    private final HerOrders x = new HerOrders();

    private AnyCallTest(int seed) {
        chance = new Random(seed);
    }

    public static void main(String[] args) {
        for (int seed = 0; seed < 1500; seed++) {
            long first = new AnyCallTest(seed).run();
            long second = new AnyCallTest(seed).run();
            Desk.due("a run again, seed " + seed, second, first);
        }
        Desk.finish();
    }

    private int any() {
        return chance.nextInt(8) == 0 ? EDGES[chance.nextInt(EDGES.length)] : chance.nextInt(6);
    }

    private long run() {
        long h = 0;
        for (int k = 0; k < STEPS; k++) {
            if (k == 5) furnish();
            int which = chance.nextInt(CALLS);
            long before = x.digest();
            long answer = which < 20 ? early(which) : late(which);
            h = 31 * h + answer;
            boolean refused = answer < 0 && answer >= -6 && which != 37 && which != 38;
            if (refused) Desk.due("refused call " + which, x.digest(), before);
            if (which == 38) Desk.due("lower() above 0", answer > 0 ? 1 : 0, 1);
        }
        return h;
    }

    private void furnish() {
        StringBuilder text = new StringBuilder();
        int n = 1 + chance.nextInt(6);
        for (int i = 0; i < n; i++) {
            int words = chance.nextInt(64);
            text.append("vpsnmc".charAt(chance.nextInt(6))).append(words / 10).append(words % 10);
            text.append(chance.nextInt(3)).append(1 + chance.nextInt(9)).append(" ".repeat(chance.nextInt(5)));
        }
        Desk.write(x, 0, text.toString());
        x.house(0);
        for (int r = 0; r < 6; r++) {
            x.row(r, chance.nextInt(7));
            for (int i = 0; i < 6; i++) x.lay(r, i, chance.nextInt(6));
        }
    }

    private long early(int which) {
        switch (which) {
            case 0: return x.row(any(), any());
            case 1: return x.lay(any(), any(), any());
            case 2: return x.at(any(), any());
            case 3: return x.tear(any());
            case 4: return x.copy(any(), any(), any(), any(), any());
            case 5: return x.mean(any());
            case 6: return x.text(1 + any() % 3, any());
            case 7: return x.put(any(), any(), any()) - 500;
            case 8: return x.fault(any());
            case 9: return x.house(any());
            case 10: return x.speaker(any(), any());
            case 11: return x.mark(any(), any());
            case 12: return x.say(any(), any());
            case 13: return x.end();
            case 14: return x.hour();
            case 15: return x.walk(any(), any());
            case 16: return x.undo(any());
            case 17: return x.keep(any());
            case 18: return x.on(any());
            default: return x.who(any());
        }
    }

    private long late(int which) {
        switch (which) {
            case 20: return x.what(any());
            case 21: return x.said(any());
            case 22: return x.ways(any());
            case 23: return x.few(any(), any());
            case 24: return x.far(any());
            case 25: return x.dumb();
            case 26: return x.longest(any());
            case 27: return x.heard(any());
            case 28: return x.sure(any());
            case 29: return x.kinds(any(), any());
            case 30: return x.test(any(), any());
            case 31: return x.fourth(any(), any());
            case 32: return x.off(any());
            case 33: return x.struck(any());
            case 34: return x.odds(any(), any());
            case 35: return x.mid(any(), any());
            case 36: return x.lots(any(), any());
            case 37: return x.asked();
            case 38: return x.lower();
            case 39: return x.count(any());
            default: return x.findings(any()) + 7L * x.finding() + x.upper();
        }
    }
}
