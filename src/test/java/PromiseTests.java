/** Promise by promise: ordinary calls, the edges that the document names, refused calls. */
public final class PromiseTests {
    private static final int NONE = -1, BAD = -2, NO = -3, FULL = -4;
    private static final int WRITE = 0, ADD = 1, COPY = 2, CHECK = 3, LOCK = 4, FREE = 5;
    private static final Due DUE = new Due("PromiseTests");

    private static void due(String call, long got, long want) {
        DUE.is(call, got, want);
    }

    /** An object with the steps that a text tells. */
    private static StepOrders with(String steps) {
        StepOrders x = new StepOrders();
        type(x, steps);
        x.reads();
        return x;
    }

    private static void type(StepOrders x, String text) {
        x.clear();
        for (int k = 0; k < text.length(); k++) {
            x.type(text.charAt(k));
        }
    }

    private static int read(StepOrders x, String text) {
        type(x, text);
        return x.reads();
    }

    private static String orderAt(StepOrders x, int s) {
        StringBuilder row = new StringBuilder();
        for (int k = 0; k < x.order(s, NONE); k++) {
            row.append(x.order(s, k));
        }
        return row.toString();
    }

    private static void dueOrders(String steps, String... orders) {
        StepOrders x = with(steps);
        due(steps + ": orders(0)", x.orders(0), orders.length);
        for (int s = 0; s < orders.length; s++) {
            due(steps + ": order " + s + " is " + orders[s] + ", not " + orderAt(x, s),
                orderAt(x, s).equals(orders[s]) ? 1 : 0, 1);
        }
    }

    private static void run(StepOrders x, String threads) {
        for (int k = 0; k < threads.length(); k++) {
            x.does(threads.charAt(k) - '0');
        }
    }

    private static void newObject() {
        StepOrders x = new StepOrders();
        int[] told = {0, 0, 0, 0, 0, 0, 0, 0, 0};
        for (int what = 0; what < told.length; what++) {
            due("1: told(" + what + ")", x.told(what), told[what]);
        }
        int[] run = {0, 0, 0, 0, NONE, NONE};
        for (int what = 0; what < run.length; what++) {
            due("1: run(" + what + ")", x.run(what), run[what]);
        }
        due("1: orders(0)", x.orders(0), 1);
        due("1: order(0, NONE)", x.order(0, NONE), 0);
        due("1: two objects share nothing", with("0wa1;").told(4) + new StepOrders().told(4), 1);
    }

    private static void step() {
        StepOrders x = new StepOrders();
        for (int i = 0; i < 4; i++) {
            due("2: step(1, WRITE, 3, 9)", x.step(1, WRITE, 3, 9), i);
        }
        due("2: a fifth", x.step(1, WRITE, 3, 9), FULL);
        due("2: BAD goes ahead of FULL", x.step(1, WRITE, 4, 9), BAD);
        due("2: of another thread", x.step(2, COPY, 3, 3), 0);
        due("2: the last one", x.step(2, FREE, 1, 0), 1);
        due("2: it came behind", x.of(2, 1, 0), FREE);
        due("2: told(2)", x.told(2), 1);
        due("2: told(0)", x.told(0), 1);
        int[][] bad = {{-1, 0, 0, 0}, {3, 0, 0, 0}, {0, -1, 0, 0}, {0, 6, 0, 0}, {0, 0, -1, 0}, {0, 0, 4, 0},
            {0, 0, 0, -1}, {0, 0, 0, 10}, {0, 1, 4, 0}, {0, 1, 0, 10}, {0, 2, 4, 0}, {0, 2, 0, 4}, {0, 2, 0, -1},
            {0, 3, 4, 0}, {0, 3, 0, 10}, {0, 4, 2, 0}, {0, 4, -1, 0}, {0, 4, 0, 1}, {0, 4, 0, -1}, {0, 5, 2, 0},
            {0, 5, 1, 1}, {Integer.MIN_VALUE, 0, 0, 0}, {0, Integer.MAX_VALUE, 0, 0},
            {0, 0, Integer.MIN_VALUE, 0}, {0, 0, 0, Integer.MAX_VALUE}};
        for (int[] b : bad) {
            due("2: step(" + b[0] + ", " + b[1] + ", " + b[2] + ", " + b[3] + ")", x.step(b[0], b[1], b[2], b[3]), BAD);
        }
        due("2: a refused one does nothing", x.told(4), 0);
        due("2: a refused one leaves no state", x.told(8), 5);
        due("2: and counts", x.told(0), 1 + bad.length);
        StepOrders y = with("0wa1;1wa1;");
        run(y, "0");
        y.step(1, CHECK, 0, 0);
        due("2: the run begins again", y.run(1), 0);
    }

    private static void drops() {
        StepOrders x = with("0wa1;0ab2;1l0;");
        due("3: drops(0)", x.drops(0), 1);
        due("3: the first is there yet", x.of(0, 0, 0), WRITE);
        due("3: the last is not", x.of(0, 1, 0), BAD);
        run(x, "0");
        due("3: drops(1)", x.drops(1), 0);
        due("3: the run begins again", x.run(1), 0);
        due("3: drops(1), none", x.drops(1), NO);
        due("3: drops(2), none", x.drops(2), NO);
        due("3: drops(-1)", x.drops(-1), BAD);
        due("3: drops(3)", x.drops(3), BAD);
        due("3: states", x.told(8), 4);
        due("3: NO counts", x.told(1), 2);
        due("3: orders follow", x.orders(0), 1);
    }

    private static void number() {
        StepOrders x = with("0wa1;");
        due("4: number(2, 7)", x.number(2, 7), 0);
        due("4: number(2, 3)", x.number(2, 3), 7);
        due("4: number(2, 3) again", x.number(2, 3), 3);
        due("4: number(0, 9)", x.number(0, 9), 0);
        due("4: told(7)", x.told(7), 9030);
        due("4: the end follows", x.sort(0, 0), 1030);
        run(x, "0");
        x.number(2, 3);
        due("4: the run begins again by the same, too", x.run(1), 0);
        due("4: the run's numbers", x.run(3), 9030);
        run(x, "0");
        int states = x.told(8);
        int[][] bad = {{-1, 0}, {4, 0}, {0, -1}, {0, 10}};
        for (int[] b : bad) {
            due("4: number(" + b[0] + ", " + b[1] + ")", x.number(b[0], b[1]), BAD);
        }
        due("4: refused, the run goes on", x.run(1), 1);
        due("4: refused, no state", x.told(8), states);
    }

    private static void of() {
        StepOrders x = with("0wb7;0ac8;0cda;0caa;1kc5;1l1;1f0;");
        int[][] want = {{0, 0, WRITE, 1, 7, 0, 2}, {0, 1, ADD, 2, 8, 4, 4}, {0, 2, COPY, 3, 0, 1, 8},
            {0, 3, COPY, 0, 0, 1, 1}, {1, 0, CHECK, 2, 5, 4, 0}, {1, 1, LOCK, 1, 0, 0, 0}, {1, 2, FREE, 0, 0, 0, 0}};
        for (int[] w : want) {
            for (int what = 0; what < 5; what++) {
                due("5: of(" + w[0] + ", " + w[1] + ", " + what + ")", x.of(w[0], w[1], what), w[2 + what]);
            }
        }
        due("5: of(0, 0, -1)", x.of(0, 0, -1), BAD);
        due("5: of(0, 0, 5)", x.of(0, 0, 5), BAD);
        due("5: of(0, 4, 0)", x.of(0, 4, 0), BAD);
        due("5: of(1, 3, 0)", x.of(1, 3, 0), BAD);
        due("5: of(1, -1, 0)", x.of(1, -1, 0), BAD);
        due("5: of(2, 0, 0)", x.of(2, 0, 0), BAD);
        due("5: of(3, 0, 0)", x.of(3, 0, 0), BAD);
        due("5: of(-1, 0, 0)", x.of(-1, 0, 0), BAD);
        due("5: they count", x.told(0), 8);
    }

    private static void depend() {
        StepOrders x = with("0wa1;0kb1;0cba;0l0;1aa1;1ka1;1cca;1f0;2l1;2kb2;2wd1;");
        int[][] want = {
            {0, 0, 1, 0, 1}, {0, 0, 1, 1, 1}, {0, 0, 1, 2, 1}, {0, 0, 1, 3, 0}, {0, 0, 2, 2, 0},
            {0, 1, 2, 1, 0}, {0, 1, 1, 0, 0}, {0, 2, 2, 1, 1}, {0, 2, 1, 0, 1}, {0, 2, 1, 1, 0},
            {0, 2, 1, 2, 0}, {0, 3, 1, 3, 1}, {0, 3, 2, 0, 0}, {0, 3, 2, 1, 0}, {1, 1, 0, 0, 1},
            {0, 0, 0, 1, 1}, {2, 0, 2, 2, 1}, {2, 2, 2, 0, 1}, {1, 3, 0, 3, 1}};
        for (int[] w : want) {
            due("6: depend(" + w[0] + ", " + w[1] + ", " + w[2] + ", " + w[3] + ")",
                x.depend(w[0], w[1], w[2], w[3]), w[4]);
        }
        due("6: the same one", x.depend(1, 2, 1, 2), BAD);
        due("6: not so many", x.depend(0, 0, 2, 3), BAD);
        due("6: not so many", x.depend(2, 3, 0, 0), BAD);
        due("6: no such thread", x.depend(0, 0, 3, 0), BAD);
        due("6: no such thread", x.depend(-1, 0, 0, 0), BAD);
        due("6: below 0", x.depend(0, -1, 1, 0), BAD);
        due("6: two locks of one", with("0l1;1l1;").depend(0, 0, 1, 0), 1);
        due("6: two frees of one", with("0f1;1f1;").depend(0, 0, 1, 0), 1);
        due("6: a lock 0 and a number a", with("0l0;1wa0;").depend(0, 0, 1, 0), 0);
    }

    private static void orders() {
        StepOrders x = with("0wa1;1wb1;2wc1;");
        due("7: none depend", x.orders(0), 1);
        x.step(0, CHECK, 1, 1);
        due("7: one waits for two", x.orders(0), 2);
        due("7: WRONG in one of them", x.orders(2), 1);
        due("7: one end", x.orders(3), 1);
        due("7: no standstill", x.orders(1), 0);
        due("7: three writes", with("0wa1;1wa2;2wa3;").orders(0), 6);
        due("7: three ends", with("0wa1;1wa2;2wa3;").orders(3), 3);
        StepOrders y = with("0l0;0l1;1l1;1l0;");
        due("7: crossed locks, never freed", y.orders(0), 3);
        due("7: all at a standstill", y.orders(1), 3);
        due("7: the same lock twice", with("0l0;0l0;").orders(1), 1);
        due("7: a free of another one's", with("0l0;1f0;").orders(1), 1);
        due("7: orders(4)", x.orders(4), BAD);
        due("7: orders(-1)", x.orders(-1), BAD);
        due("7: ADD is by 10 left over", with("0aa7;0aa7;").sort(0, 0), 4000);
        StepOrders w = with("0wa1;");
        due("7: asked", w.ends(0), 1000);
        w.drops(0);
        w.step(0, WRITE, 0, 2);
        due("7: asked of another step", w.ends(0), 2000);
        w.back();
        w.back();
        due("7: asked of the first one", w.ends(0), 1000);
        StepOrders z = with("0aa1;1aa2;");
        due("7: two sorts of one end", z.orders(0) * 10 + z.orders(3), 21);
    }

    private static void order() {
        dueOrders("0wa1;1wa2;", "01", "10");
        dueOrders("0wa1;1wb2;", "01");
        dueOrders("0wa1;0wb1;1kb0;", "001", "010");
        dueOrders("0wb1;1wa1;2wa1;", "012", "021");
        dueOrders("0wa1;1wb1;2wa1;2wb1;", "0122", "0221", "1202", "2021");
        dueOrders("0l0;0f0;1l0;1f0;", "0011", "1100");
        dueOrders("0l0;1l0;2wd1;", "02", "12");
        dueOrders("1f0;", "");
        StepOrders x = with("0wa1;1wa2;");
        due("8: how many", x.order(1, NONE), 2);
        due("8: not so many threads", x.order(1, 2), -5);
        due("8: not so many threads", x.order(1, Integer.MAX_VALUE), -5);
        due("8: not so many sorts", x.order(2, 0), NO);
        due("8: not so many sorts", x.order(Integer.MAX_VALUE, NONE), NO);
        due("8: k below NONE", x.order(0, -2), BAD);
        due("8: BAD goes ahead of NO", x.order(9, -2), BAD);
        due("8: s below 0", x.order(-1, 0), BAD);
        due("8: -5 is not refused", x.told(0) * 10 + x.told(1), 32);
    }

    private static void sort() {
        StepOrders x = with("0wa1;0kb2;1wb2;1ka0;2l0;2l0;");
        String[] rows = {"00112", "01012", "11002"};
        due("9: sorts", x.orders(0), rows.length);
        for (int s = 0; s < rows.length; s++) {
            due("9: " + orderAt(x, s), orderAt(x, s).equals(rows[s]) ? 1 : 0, 1);
            due("9: ENDS of " + s, x.sort(s, 0), 1200);
            due("9: WRONG ones of " + s, x.sort(s, 1), rows.length - 1 - s);
            due("9: a STANDSTILL is " + s, x.sort(s, 2), 1);
        }
        StepOrders z = with("0kb2;0wa1;1wb2;");
        due("9: WRONG ones, check first", z.sort(0, 1), 1);
        due("9: WRONG ones, check last", z.sort(1, 1), 0);
        due("9: ends well", z.sort(0, 2), 0);
        due("9: ENDS", z.sort(1, 0), 1200);
        z.number(1, 2);
        due("9: by the numbers as they begin", z.sort(0, 1), 0);
        due("9: s below 0", z.sort(-1, 0), BAD);
        due("9: what below 0", z.sort(0, -1), BAD);
        due("9: what above 2", z.sort(0, 3), BAD);
        due("9: BAD goes ahead of NO", z.sort(5, 3), BAD);
        due("9: not so many", z.sort(2, 0), NO);
        due("9: they count", z.told(0) * 10 + z.told(1), 41);
    }

    private static void ends() {
        StepOrders x = with("0wa9;1wa3;2wa5;2wd1;");
        due("10: ends(0)", x.ends(0), 3001);
        due("10: ends(1)", x.ends(1), 5001);
        due("10: ends(2)", x.ends(2), 9001);
        due("10: ends(3)", x.ends(3), -5);
        due("10: ends(MAX)", x.ends(Integer.MAX_VALUE), -5);
        due("10: ends(-1)", x.ends(-1), BAD);
        due("10: once counted", x.told(0), 1);
        StepOrders y = with("0l0;0wa1;1l0;1wb1;");
        due("10: at standstills, too", y.ends(0), 100);
        due("10: at standstills, too", y.ends(1), 1000);
        due("10: no others", y.ends(2), -5);
        StepOrders z = with("0kd0;");
        for (int n = 0; n < 4; n++) {
            z.number(n, 9);
        }
        due("10: the highest", z.ends(0), 9999);
    }

    private static void race() {
        StepOrders x = with("0wa1;0l0;0wb1;0f0;1l0;1wb2;1f0;1wa2;2kb0;");
        due("11: free ones", x.race(0, 0, 1, 3), 1);
        due("11: the other way round", x.race(1, 3, 0, 0), 1);
        due("11: kept apart by a lock", x.race(0, 2, 1, 1), 0);
        due("11: with one outside the lock", x.race(2, 0, 0, 2), 1);
        due("11: by a lock alone", x.race(0, 1, 1, 0), 0);
        due("11: not dependent", x.race(0, 0, 2, 0), 0);
        due("11: the same thread", x.race(0, 0, 0, 1), BAD);
        due("11: not so many", x.race(0, 4, 1, 0), BAD);
        due("11: not so many", x.race(0, 0, 2, 1), BAD);
        due("11: no such thread", x.race(3, 0, 0, 0), BAD);
        due("11: below 0", x.race(0, 0, 1, -1), BAD);
        due("11: behind a standstill", with("0l0;0l0;0wa1;1wa2;").race(0, 2, 1, 0), 0);
        due("11: reads alone", with("0ka1;1cba;").race(0, 0, 1, 0), 0);
        due("11: one ahead of the other's", with("0wa1;0wa2;1ka2;").race(0, 1, 1, 0), 1);
        due("11: third one must go first", with("0f0;0wa1;1wa1;2l0;2f0;").race(0, 1, 1, 0), 0);
    }

    private static void races() {
        due("12: none", new StepOrders().races(), 0);
        due("12: three", with("0wa1;1wa2;2ka1;").races(), 3);
        due("12: two", with("0ka1;1wa2;2ka1;").races(), 2);
        due("12: each two once", with("0wa1;0wa1;1wa2;1wa2;").races(), 4);
        due("12: a lock keeps them apart", with("0l0;0wa1;0f0;1l0;1wa2;1f0;").races(), 0);
        due("12: two locks do not", with("0l0;0wa1;0f0;1l1;1wa2;1f1;").races(), 1);
    }

    private static void does() {
        StepOrders x = with("0ka1;0wa1;1ka1;1l0;1f0;2l0;2ka9;");
        due("13: a wrong one", x.does(0), 1);
        due("13: a write", x.does(0), 1);
        due("13: a right one", x.does(1), 1);
        due("13: a lock", x.does(1), 1);
        due("13: held by another", x.does(2), NO);
        due("13: none is left", x.does(0), NO);
        due("13: no such thread", x.does(3), BAD);
        due("13: no such thread", x.does(-1), BAD);
        due("13: done, refused ones not", x.run(1), 4);
        due("13: a free", x.does(1), 1);
        due("13: now it is free", x.does(2), 1);
        due("13: wrong once more", x.does(2), 2);
        due("13: refused ones", x.told(0) * 10 + x.told(1), 22);
        due("13: a free without the lock", with("0f0;").does(0), NO);
        due("13: its own lock once more", oneDone("0l1;0l1;").does(0), NO);
        due("13: S", x.told(8), 5);
        due("13: S", oneDone("0l1;").told(8), 2);
    }

    private static StepOrders oneDone(String steps) {
        StepOrders x = with(steps);
        x.does(0);
        return x;
    }

    private static void again() {
        StepOrders x = with("0wa1;0l0;1ka0;");
        run(x, "001");
        due("14: again()", x.again(), 3);
        due("14: none done", x.run(1), 0);
        due("14: numbers as they begin", x.run(3), 0);
        due("14: the lock is free", x.run(4), NONE);
        due("14: none wrong", x.run(2), 0);
        due("14: again()", x.again(), 0);
        due("14: S, also if nothing changes", x.told(8), 5);
        x.back();
        x.back();
        due("14: back in the run", x.run(1), 3);
        due("14: S on a new object", new StepOrders().again(), 0);
    }

    private static void run() {
        StepOrders x = with("0l0;0wd7;1l0;2l1;2ka3;2f1;");
        due("15: all three", x.run(0), 7);
        run(x, "0");
        due("15: one waits", x.run(0), 5);
        due("15: holder of 0", x.run(4), 0);
        due("15: holder of 1", x.run(5), NONE);
        run(x, "22");
        due("15: done", x.run(1), 3);
        due("15: wrong", x.run(2), 1);
        due("15: holder of 1", x.run(5), 2);
        run(x, "20");
        due("15: freed", x.run(5), NONE);
        due("15: numbers", x.run(3), 7);
        due("15: none can", x.run(0), 0);
        due("15: run(6)", x.run(6), BAD);
        due("15: run(-1)", x.run(-1), BAD);
        due("15: they count", x.told(0), 2);
    }

    private static void which() {
        StepOrders x = with("0wa1;0kb0;1wb1;1ka0;");
        due("16: it goes on", x.which(), NONE);
        for (int s = 0; s < x.orders(0); s++) {
            run(x, orderAt(x, s));
            due("16: its own number", x.which(), s);
            x.again();
        }
        StepOrders y = with("0wb1;1wa1;2wa2;");
        String[] rows = {"012", "102", "120", "021", "201", "210"};
        int[] want = {0, 0, 0, 1, 1, 1};
        for (int k = 0; k < rows.length; k++) {
            run(y, rows[k]);
            due("16: " + rows[k], y.which(), want[k]);
            y.again();
        }
        StepOrders z = with("0l0;1l0;");
        run(z, "1");
        due("16: a standstill is an order", z.which(), 1);
        due("16: none is refused", z.told(1), 0);
        due("16: no steps", new StepOrders().which(), 0);
    }

    private static void type() {
        StepOrders x = new StepOrders();
        due("17: 0", x.type(0), 1);
        due("17: 127", x.type(127), 2);
        due("17: 128", x.type(128), BAD);
        due("17: -1", x.type(-1), BAD);
        for (int had = 2; had < 120; had++) {
            due("17: type", x.type('0'), had + 1);
        }
        due("17: FULL", x.type('0'), FULL);
        due("17: BAD goes ahead", x.type(128), BAD);
        due("17: counts", x.told(0) * 10 + x.told(2), 31);
        due("17: bytes", x.told(3), 120);
        due("17: no S", x.told(8), 0);
    }

    private static void clear() {
        StepOrders x = new StepOrders();
        due("18: empty", x.clear(), 0);
        x.type('0');
        x.type(' ');
        due("18: had", x.clear(), 2);
        due("18: empty now", x.told(3), 0);
        due("18: no S", x.told(8), 0);
        due("18: type begins anew", x.type('0'), 1);
    }

    private static void reads() {
        StepOrders x = new StepOrders();
        due("19: steps", read(x, "  0 w a 1 ; 2cbd;1kc9;0ad0;1l1;1f0; "), 6);
        due("19: it stays", x.told(3), 36);
        int[][] want = {{0, 0, WRITE, 0, 1}, {0, 1, ADD, 3, 0}, {1, 0, CHECK, 2, 9}, {1, 1, LOCK, 1, 0},
            {1, 2, FREE, 0, 0}, {2, 0, COPY, 1, 3}};
        for (int[] w : want) {
            for (int what = 0; what < 3; what++) {
                due("19: of(" + w[0] + ", " + w[1] + ", " + what + ")", x.of(w[0], w[1], what), w[2 + what]);
            }
        }
        due("19: one state", x.told(8), 1);
        run(x, "02");
        due("19: again", read(x, "0wa1;0wa1;"), 2);
        due("19: the run begins again", x.run(1), 0);
        due("19: none left", x.reads(), -10);
        due("19: no state by a fault", x.told(8), 4);
        x.back();
        due("19: all of them go at once", x.told(4), 2);
        due("19: and the run is back", x.run(1), 2);
        due("19: nothing counts", x.told(0) + x.told(1) + x.told(2), 0);
    }

    private static void faults() {
        String[] texts = {"", " ", "   ", "3", "0", "0w", "0wa", "0wa1", "0wa1;0", "0wa1; ", "0wa1 2;", "0we1;",
            "0wA1;", "0Wa1;", "0cae;", "0ca1;", "0waa;", "0l2;", "0l9;", "0la;", "0l00;", "0f2;", "0f1", "0 x",
            "0wa1;;", ";", "0wa1;0wa1;0wa1;0wa1;0q", "0wa1;0wa1;0wa1;0wa1; 0", "0wa1;1wa1;0wa1;0wa1;0wa1;1q",
            "0wa:;", "0wa/;", "0\t", "0wa1;\n", "w0", "0`", "0wa1:", "0l/;", "0w`1;"};
        int[] due = {0, 1, 3, 0, 1, 2, 3, 4, 6, NONE, 5, 2, 2, 1, 3, 3, 3, 2, 2, 2, 3, 2, 3, 2, 5, 0, 20, 21, 26, 3, 3,
            1, 5, 0, 1, 4, 2, 2};
        for (int k = 0; k < texts.length; k++) {
            StepOrders x = new StepOrders();
            int want = due[k] == NONE ? 1 : -10 - due[k];
            due("19: reads() of '" + texts[k] + "'", read(x, texts[k]), want);
            due("19: refused by '" + texts[k] + "'", x.told(0) + x.told(1) + x.told(2), 0);
            due("19: steps by '" + texts[k] + "'", x.told(4) + x.told(5) + x.told(6), due[k] == NONE ? 1 : 0);
            due("19: states by '" + texts[k] + "'", x.told(8), due[k] == NONE ? 1 : 0);
        }
        StepOrders x = with("0wa1;0wa1;0wa1;0wa1;");
        run(x, "00");
        due("19: a fifth step", read(x, "1wa1; 0wa1;"), -16);
        due("19: a fault leaves the run", x.run(1), 2);
        due("19: a fault leaves the steps", x.told(5), 0);
    }

    private static void back() {
        StepOrders x = new StepOrders();
        due("20: none", x.back(), NO);
        x.step(0, WRITE, 0, 1);
        x.step(1, LOCK, 0, 0);
        x.number(1, 5);
        x.does(1);
        x.does(0);
        x.again();
        x.again();
        due("20: 5 at most", x.told(8), 5);
        due("20: back()", x.back(), 4);
        due("20: nothing done", x.run(1), 0);
        due("20: back()", x.back(), 3);
        due("20: two done", x.run(1), 2);
        due("20: numbers of the run", x.run(3), 1500);
        due("20: the lock of the run", x.run(4), 1);
        due("20: the run's sort", x.which(), 0);
        due("20: back()", x.back(), 2);
        due("20: one done", x.run(1), 1);
        due("20: back()", x.back(), 1);
        due("20: the number is there yet", x.told(7), 500);
        due("20: back()", x.back(), 0);
        due("20: the number is back", x.told(7), 0);
        due("20: steps are there yet", x.told(4) + x.told(5), 2);
        due("20: no more", x.back(), NO);
        due("20: NO counts", x.told(1), 2);
        x.type('0');
        x.step(2, CHECK, 3, 3);
        x.step(9, 9, 9, 9);
        x.back();
        due("20: the text stays", x.told(3), 1);
        due("20: the counts stay", x.told(0), 1);
        due("20: the step went", x.told(6), 0);
        due("20: orders follow", x.orders(0), 1);
    }

    private static void told() {
        StepOrders x = with("0wa1;0wa1;1wa1;2l0;2f0;2l0;");
        x.number(0, 1);
        x.number(1, 2);
        x.number(2, 3);
        x.number(3, 4);
        x.drops(9);
        x.does(7);
        x.does(1);
        x.does(1);
        int[] want = {2, 1, 0, 27, 2, 1, 3, 1234, 5};
        for (int what = 0; what < want.length; what++) {
            due("21: told(" + what + ")", x.told(what), want[what]);
        }
        due("21: told(9)", x.told(9), BAD);
        due("21: told(-1)", x.told(-1), BAD);
        due("21: both count", x.told(0), 4);
    }

    private static void digest() {
        StepOrders x = new StepOrders();
        long h = 2593;
        int[] values = {0, 0, 0, 0, 0, 0, 0, 0, 0, 1, 0, 0, 1, 0, 0, 0, 0, 0, NONE, NONE, 0};
        for (int v : values) {
            h = 31 * h + v;
        }
        due("22: of a new object", x.digest(), h);
        x.step(1, COPY, 0, 3);
        x.step(2, CHECK, 0, 5);
        x.number(3, 5);
        x.does(2);
        x.does(2);
        x.type(' ');
        int[] more = {0, 1, 0, 1, 0, 1, 1, 5, 4, COPY, 0, 3, 8, 1, CHECK, 0, 5, 1, 0, 2, 0, 1, 1, 1,
            2, 1, 1, 5, NONE, NONE, 5005};
        h = 2593;
        for (int v : more) {
            h = 31 * h + v;
        }
        due("22: of some steps", x.digest(), h);
        due("22: it changes nothing", x.digest(), h);
    }

    /** The dearest object, asked till its last call. */
    private static void mostOfAll() {
        StepOrders x = new StepOrders();
        for (int i = 0; i < 4; i++) {
            for (int t = 0; t < 3; t++) {
                x.step(t, ADD, 0, 1 + t);
            }
        }
        for (int call = 12; call < 512; call += 2) {
            x.number(0, call / 2 % 10);
            due("dearest: orders(0)", x.orders(0), 34650);
        }
    }

    public static void main(String[] args) {
        newObject();
        step();
        drops();
        number();
        of();
        depend();
        orders();
        order();
        sort();
        ends();
        race();
        races();
        does();
        again();
        run();
        which();
        type();
        clear();
        reads();
        faults();
        back();
        told();
        digest();
        mostOfAll();
        DUE.end();
    }
}
