/** Runs of calls drawn by a fixed row of numbers, each answer held against the model's. */
public final class ModelTests {
    private static final Due DUE = new Due("ModelTests");
    private static final String SIGNS = "012wacklf;abcd9";

    private long drawn;
    private final StepOrders x = new StepOrders();
    private final Model model = new Model();
    private final StringBuilder calls = new StringBuilder();
    private final int most;
    private final int locking;

    private ModelTests(long seed, int most) {
        drawn = seed * 7919 + 17;
        this.most = most;
        locking = draw(4);
    }

    private int draw(int below) {
        drawn = drawn * 6364136223846793005L + 1442695040888963407L;
        return (int) ((drawn >>> 33) % below);
    }

    /** Mostly a fitting number, now and then one beside the bounds. */
    private int near(int below) {
        int luck = draw(40);
        if (luck == 0) {
            return -1;
        }
        if (luck == 1) {
            return below;
        }
        return luck == 2 ? new int[] {Integer.MIN_VALUE, Integer.MAX_VALUE, -2}[draw(3)] : draw(below);
    }

    private int inAll() {
        return model.told(4) + model.told(5) + model.told(6);
    }

    private void due(String call, long got, long want) {
        calls.append(' ').append(call);
        DUE.is(calls.toString(), got, want);
    }

    private void addStep() {
        int t = near(3);
        int sort = draw(4) < locking ? 4 + draw(2) : near(6);
        boolean lock = sort == 4 || sort == 5;
        int n = near(lock ? 2 : draw(2) == 0 ? 2 : 4);
        int v = lock ? (draw(20) == 0 ? 1 : 0) : near(sort == 2 ? 4 : draw(2) == 0 ? 2 : 10);
        if (inAll() < most) {
            due("step(" + t + ", " + sort + ", " + n + ", " + v + ")", x.step(t, sort, n, v), model.step(t, sort, n, v));
        } else {
            int u = near(3);
            due("drops(" + u + ")", x.drops(u), model.drops(u));
        }
    }

    private void typeOne(int c) {
        due("type(" + c + ")", x.type(c), model.type(c));
    }

    private void tellStep() {
        String[] told = {"wa", "ab", "cc", "kd", "l", "f"};
        int sort = draw(6);
        String one = draw(3) + told[sort] + (sort == 2 ? "" + "abcd".charAt(draw(4)) : sort > 3 ? "" + draw(2) : "" + draw(10)) + ";";
        for (int k = 0; k < one.length(); k++) {
            if (draw(12) == 0) {
                typeOne(' ');
            }
            if (draw(60) == 0) {
                typeOne(near(128));
            }
            typeOne(draw(50) == 0 ? SIGNS.charAt(draw(SIGNS.length())) : one.charAt(k));
        }
    }

    private void readText() {
        due("clear()", x.clear(), model.clear());
        for (int left = draw(4); left > 0; left--) {
            tellStep();
        }
        if (inAll() + 3 <= most) {
            due("reads()", x.reads(), model.reads());
        }
    }

    private void goOn() {
        int t = near(3);
        due("does(" + t + ")", x.does(t), model.does(t));
        for (int what = 0; what < 6; what++) {
            due("run(" + what + ")", x.run(what), model.run(what));
        }
        due("which()", x.which(), model.which());
    }

    private void goToTheEnd() {
        if (draw(3) > 0) {
            due("again()", x.again(), model.again());
        }
        for (int left = 30; left > 0 && x.which() == -1; left--) {
            int t = draw(3);
            due("does(" + t + ")", x.does(t), model.does(t));
        }
        due("which()", x.which(), model.which());
    }

    private void askOrders() {
        int what = near(4);
        due("orders(" + what + ")", x.orders(what), model.orders(what));
        int s = near(Math.max(1, model.orders(0) + 1));
        for (int k = -2; k < 4; k++) {
            due("order(" + s + ", " + k + ")", x.order(s, k), model.order(s, k));
        }
        int k = near(13);
        due("order(" + s + ", " + k + ")", x.order(s, k), model.order(s, k));
        int sorts = near(3);
        due("sort(" + s + ", " + sorts + ")", x.sort(s, sorts), model.sort(s, sorts));
        int i = near(8);
        due("ends(" + i + ")", x.ends(i), model.ends(i));
    }

    private void askSteps() {
        int t = near(3);
        int i = near(4);
        int u = near(3);
        int j = near(4);
        int what = near(5);
        due("of(" + t + ", " + i + ", " + what + ")", x.of(t, i, what), model.of(t, i, what));
        String four = "(" + t + ", " + i + ", " + u + ", " + j + ")";
        due("depend" + four, x.depend(t, i, u, j), model.depend(t, i, u, j));
        due("race" + four, x.race(t, i, u, j), model.race(t, i, u, j));
        due("races()", x.races(), model.races());
    }

    private void setNumber() {
        int n = near(4);
        int v = near(10);
        due("number(" + n + ", " + v + ")", x.number(n, v), model.number(n, v));
    }

    private void askTold() {
        int what = near(9);
        due("told(" + what + ")", x.told(what), model.told(what));
        due("digest()", x.digest(), model.digest());
    }

    private void one() {
        switch (draw(12)) {
            case 0:
            case 1:
            case 2:
                addStep();
                break;
            case 3:
            case 4:
                goOn();
                break;
            case 5:
                goToTheEnd();
                break;
            case 6:
                askOrders();
                break;
            case 7:
                askSteps();
                break;
            case 8:
                askTold();
                break;
            case 9:
                readText();
                break;
            case 10:
                setNumber();
                break;
            default:
                due("back()", x.back(), model.back());
        }
    }

    /** Every sort and every pair, told once in full. */
    private void all() {
        int count = model.orders(0);
        due("orders(0)", x.orders(0), count);
        for (int s = 0; s <= count; s++) {
            for (int what = 0; what < 3; what++) {
                due("sort(" + s + ", " + what + ")", x.sort(s, what), model.sort(s, what));
            }
            for (int k = -1; k < 13; k++) {
                due("order(" + s + ", " + k + ")", x.order(s, k), model.order(s, k));
            }
        }
        for (int t = 0; t < 3; t++) {
            for (int u = 0; u < 3; u++) {
                for (int n = 0; n < 25; n++) {
                    int i = n / 5;
                    int j = n % 5;
                    String four = "(" + t + ", " + i + ", " + u + ", " + j + ")";
                    due("depend" + four, x.depend(t, i, u, j), model.depend(t, i, u, j));
                    due("race" + four, x.race(t, i, u, j), model.race(t, i, u, j));
                }
            }
        }
        due("digest()", x.digest(), model.digest());
    }

    private static void runOf(long seed, int most, int calls) {
        ModelTests run = new ModelTests(seed, most);
        for (int left = calls; left > 0 && DUE.wrong() == 0; left--) {
            run.one();
        }
        if (DUE.wrong() == 0) {
            run.calls.setLength(0);
            run.all();
        }
    }

    public static void main(String[] args) {
        int runs = args.length > 0 ? Integer.parseInt(args[0]) : 150;
        for (int seed = 1; seed <= runs; seed++) {
            runOf(seed, 4 + seed % 4, 80);
        }
        for (int seed = 1; seed <= runs / 30; seed++) {
            runOf(1000 + seed, 9, 40);
        }
        DUE.end();
    }
}
