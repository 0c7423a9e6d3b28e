import java.util.ArrayList;
import java.util.LinkedHashMap;
import java.util.List;
import java.util.Map;
import java.util.TreeSet;
import java.util.regex.Matcher;
import java.util.regex.Pattern;

/**
 * The document once more, in its plainest form: it writes out every order there is and puts
 * two of them into one sort only by what the words say. Slow, and shares no code or idea with
 * StepOrders, so that the two can be held against one another.
 */
final class Model {
    private static final int NONE = -1, BAD = -2, NO = -3, FULL = -4;
    private static final Pattern STEPS_TOLD = Pattern.compile(
        "([0-2](w[a-d][0-9]|a[a-d][0-9]|c[a-d][a-d]|k[a-d][0-9]|l[01]|f[01]);)+");

    /** A step: thread, number in it, sort, x, v. */
    private record Step(int t, int i, int sort, int x, int v) {
        boolean writes(int number) {
            return sort <= 2 && x == number;
        }

        boolean reads(int number) {
            return (sort == 1 || sort == 3) && x == number || sort == 2 && v == number;
        }

        boolean byNumber(Step o) {
            for (int n = 0; n < 4; n++) {
                if (writes(n) && (o.reads(n) || o.writes(n)) || o.writes(n) && (reads(n) || writes(n))) {
                    return true;
                }
            }
            return false;
        }

        boolean depends(Step o) {
            return t == o.t || byNumber(o) || sort >= 4 && o.sort >= 4 && x == o.x;
        }
    }

    /** Where the doing of steps has come to. */
    private static final class World {
        final int[] done = new int[3];
        final int[] numbers = new int[4];
        final int[] holder = {NONE, NONE};
        int wrong;
        final List<Step> did = new ArrayList<>();

        World copy() {
            World w = new World();
            System.arraycopy(done, 0, w.done, 0, 3);
            System.arraycopy(numbers, 0, w.numbers, 0, 4);
            System.arraycopy(holder, 0, w.holder, 0, 2);
            w.wrong = wrong;
            w.did.addAll(did);
            return w;
        }

        int ends() {
            return Integer.parseInt("" + numbers[0] + numbers[1] + numbers[2] + numbers[3]);
        }
    }

    private record Kept(List<List<Step>> threads, int[] begin, List<Integer> run) {
    }

    private List<List<Step>> threads = List.of(new ArrayList<>(), new ArrayList<>(), new ArrayList<>());
    private int[] begin = new int[4];
    private List<Integer> run = new ArrayList<>();
    private final List<Kept> kept = new ArrayList<>();
    private final StringBuilder text = new StringBuilder();
    private final int[] refused = new int[3];

    private List<World> firsts;
    private Map<String, Integer> sorts;
    private TreeSet<String> racing;

    private int refuse(int why) {
        refused[-2 - why]++;
        return why;
    }

    private void keep() {
        List<List<Step>> copy = new ArrayList<>();
        for (List<Step> one : threads) {
            copy.add(new ArrayList<>(one));
        }
        kept.add(new Kept(copy, begin.clone(), new ArrayList<>(run)));
        if (kept.size() > 5) {
            kept.remove(0);
        }
    }

    private void changed() {
        run.clear();
        firsts = null;
    }

    private boolean has(int t, int i) {
        return t >= 0 && t <= 2 && i >= 0 && i < threads.get(t).size();
    }

    // ---- all orders, each written out

    private World fresh() {
        World w = new World();
        System.arraycopy(begin, 0, w.numbers, 0, 4);
        return w;
    }

    private boolean can(World w, int t) {
        if (w.done[t] >= threads.get(t).size()) {
            return false;
        }
        Step s = threads.get(t).get(w.done[t]);
        if (s.sort == 4) {
            return w.holder[s.x] == NONE;
        }
        return s.sort != 5 || w.holder[s.x] == t;
    }

    private void go(World w, int t) {
        Step s = threads.get(t).get(w.done[t]);
        w.done[t]++;
        w.did.add(s);
        if (s.sort == 0) {
            w.numbers[s.x] = s.v;
        } else if (s.sort == 1) {
            w.numbers[s.x] = (w.numbers[s.x] + s.v) % 10;
        } else if (s.sort == 2) {
            w.numbers[s.x] = w.numbers[s.v];
        } else if (s.sort == 3) {
            w.wrong += w.numbers[s.x] == s.v ? 0 : 1;
        } else {
            w.holder[s.x] = s.sort == 4 ? t : NONE;
        }
    }

    /** What makes the sort: the steps done, and of each two that depend the one ahead. */
    private static String sortOf(List<Step> did) {
        TreeSet<String> facts = new TreeSet<>();
        for (int a = 0; a < did.size(); a++) {
            Step one = did.get(a);
            facts.add("" + one.t + one.i);
            for (int b = a + 1; b < did.size(); b++) {
                Step other = did.get(b);
                if (one.depends(other)) {
                    facts.add("" + one.t + one.i + "<" + other.t + other.i);
                }
            }
        }
        return facts.toString();
    }

    private void writeOut() {
        if (firsts == null) {
            firsts = new ArrayList<>();
            sorts = new LinkedHashMap<>();
            racing = new TreeSet<>();
            writeOut(fresh());
        }
    }

    private void writeOut(World w) {
        boolean[] can = {can(w, 0), can(w, 1), can(w, 2)};
        for (int t = 0; t < 3; t++) {
            for (int u = 0; u < 3; u++) {
                if (t != u && can[t] && can[u]) {
                    racing.add("" + t + w.done[t] + u + w.done[u]);
                }
            }
        }
        if (!can[0] && !can[1] && !can[2]) {
            if (sorts.putIfAbsent(sortOf(w.did), firsts.size()) == null) {
                firsts.add(w);
            }
            return;
        }
        for (int t = 0; t < 3; t++) {
            if (can[t]) {
                World next = w.copy();
                go(next, t);
                writeOut(next);
            }
        }
    }

    private int steps() {
        return threads.get(0).size() + threads.get(1).size() + threads.get(2).size();
    }

    private TreeSet<Integer> allEnds() {
        writeOut();
        TreeSet<Integer> ends = new TreeSet<>();
        for (World w : firsts) {
            ends.add(w.ends());
        }
        return ends;
    }

    private World runWorld() {
        World w = fresh();
        for (int t : run) {
            go(w, t);
        }
        return w;
    }

    // ---- the face

    int step(int t, int sort, int x, int v) {
        boolean lock = sort == 4 || sort == 5;
        boolean fine = t >= 0 && t <= 2 && sort >= 0 && sort <= 5 && x >= 0 && v >= 0
            && (lock ? x <= 1 && v == 0 : x <= 3 && v <= (sort == 2 ? 3 : 9));
        if (!fine) {
            return refuse(BAD);
        }
        if (threads.get(t).size() == 4) {
            return refuse(FULL);
        }
        keep();
        int i = threads.get(t).size();
        threads.get(t).add(new Step(t, i, sort, x, v));
        changed();
        return i;
    }

    int drops(int t) {
        if (t < 0 || t > 2) {
            return refuse(BAD);
        }
        if (threads.get(t).isEmpty()) {
            return refuse(NO);
        }
        keep();
        threads.get(t).remove(threads.get(t).size() - 1);
        changed();
        return threads.get(t).size();
    }

    int number(int x, int v) {
        if (x < 0 || x > 3 || v < 0 || v > 9) {
            return refuse(BAD);
        }
        keep();
        int was = begin[x];
        begin[x] = v;
        changed();
        return was;
    }

    int of(int t, int i, int what) {
        if (!has(t, i) || what < 0 || what > 4) {
            return refuse(BAD);
        }
        Step s = threads.get(t).get(i);
        int reads = 0;
        int writes = 0;
        for (int n = 0; n < 4; n++) {
            reads += s.reads(n) ? (int) Math.pow(2, n) : 0;
            writes += s.writes(n) ? (int) Math.pow(2, n) : 0;
        }
        return new int[] {s.sort, s.x, s.v, reads, writes}[what];
    }

    int depend(int t, int i, int u, int j) {
        if (!has(t, i) || !has(u, j) || t == u && i == j) {
            return refuse(BAD);
        }
        return threads.get(t).get(i).depends(threads.get(u).get(j)) ? 1 : 0;
    }

    int orders(int what) {
        if (what < 0 || what > 3) {
            return refuse(BAD);
        }
        writeOut();
        int stuck = 0;
        int wrong = 0;
        for (World w : firsts) {
            stuck += w.did.size() < steps() ? 1 : 0;
            wrong += w.wrong > 0 ? 1 : 0;
        }
        return new int[] {firsts.size(), stuck, wrong, allEnds().size()}[what];
    }

    int order(int s, int k) {
        if (s < 0 || k < -1) {
            return refuse(BAD);
        }
        writeOut();
        if (s >= firsts.size()) {
            return refuse(NO);
        }
        List<Step> did = firsts.get(s).did;
        if (k == NONE) {
            return did.size();
        }
        return k >= did.size() ? -5 : did.get(k).t;
    }

    int sort(int s, int what) {
        if (s < 0 || what < 0 || what > 2) {
            return refuse(BAD);
        }
        writeOut();
        if (s >= firsts.size()) {
            return refuse(NO);
        }
        World w = firsts.get(s);
        return new int[] {w.ends(), w.wrong, w.did.size() < steps() ? 1 : 0}[what];
    }

    int ends(int i) {
        if (i < 0) {
            return refuse(BAD);
        }
        List<Integer> ends = new ArrayList<>(allEnds());
        return i < ends.size() ? ends.get(i) : -5;
    }

    private boolean isRace(int t, int i, int u, int j) {
        writeOut();
        return threads.get(t).get(i).byNumber(threads.get(u).get(j)) && racing.contains("" + t + i + u + j);
    }

    int race(int t, int i, int u, int j) {
        if (!has(t, i) || !has(u, j) || t == u) {
            return refuse(BAD);
        }
        return isRace(t, i, u, j) ? 1 : 0;
    }

    int races() {
        int found = 0;
        for (int t = 0; t < 3; t++) {
            for (int u = 0; u < 3; u++) {
                for (int i = 0; t != u && i < threads.get(t).size(); i++) {
                    for (int j = 0; j < threads.get(u).size(); j++) {
                        found += isRace(t, i, u, j) ? 1 : 0;
                    }
                }
            }
        }
        return found / 2;
    }

    int does(int t) {
        if (t < 0 || t > 2) {
            return refuse(BAD);
        }
        if (!can(runWorld(), t)) {
            return refuse(NO);
        }
        keep();
        run.add(t);
        return runWorld().wrong;
    }

    int again() {
        keep();
        int done = run.size();
        run.clear();
        return done;
    }

    int run(int what) {
        World w = runWorld();
        switch (what) {
            case 0:
                return (can(w, 0) ? 1 : 0) + (can(w, 1) ? 2 : 0) + (can(w, 2) ? 4 : 0);
            case 1:
                return run.size();
            case 2:
                return w.wrong;
            case 3:
                return w.ends();
            case 4:
                return w.holder[0];
            case 5:
                return w.holder[1];
            default:
                return refuse(BAD);
        }
    }

    int which() {
        writeOut();
        return sorts.getOrDefault(sortOf(runWorld().did), NONE);
    }

    int type(int c) {
        if (c < 0 || c > 127) {
            return refuse(BAD);
        }
        if (text.length() == 120) {
            return refuse(FULL);
        }
        text.append((char) c);
        return text.length();
    }

    int clear() {
        int had = text.length();
        text.setLength(0);
        return had;
    }

    /** Whether some text begins like this, with no thread of more than four steps. */
    private boolean mayBegin(String head) {
        String told = head.replace(" ", "");
        Matcher m = STEPS_TOLD.matcher(told);
        if (!m.matches() && !m.hitEnd()) {
            return false;
        }
        int[] count = {threads.get(0).size(), threads.get(1).size(), threads.get(2).size()};
        for (String one : told.split(";")) {
            if (!one.isEmpty() && ++count[one.charAt(0) - '0'] > 4) {
                return false;
            }
        }
        return true;
    }

    int reads() {
        for (int k = 0; k < text.length(); k++) {
            if (!mayBegin(text.substring(0, k + 1))) {
                return -10 - k;
            }
        }
        String told = text.toString().replace(" ", "");
        if (!STEPS_TOLD.matcher(told).matches()) {
            return -10 - text.length();
        }
        keep();
        String[] each = told.split(";");
        for (String one : each) {
            int t = one.charAt(0) - '0';
            int sort = "wacklf".indexOf(one.charAt(1));
            int x = sort >= 4 ? one.charAt(2) - '0' : "abcd".indexOf(one.charAt(2));
            int v = sort >= 4 ? 0 : sort == 2 ? "abcd".indexOf(one.charAt(3)) : one.charAt(3) - '0';
            threads.get(t).add(new Step(t, threads.get(t).size(), sort, x, v));
        }
        changed();
        return each.length;
    }

    int back() {
        if (kept.isEmpty()) {
            return refuse(NO);
        }
        Kept last = kept.remove(kept.size() - 1);
        firsts = null;
        threads = last.threads;
        begin = last.begin;
        run = last.run;
        return kept.size();
    }

    int told(int what) {
        if (what < 0 || what > 8) {
            return refuse(BAD);
        }
        int begins = begin[0] * 1000 + begin[1] * 100 + begin[2] * 10 + begin[3];
        return new int[] {refused[0], refused[1], refused[2], text.length(), threads.get(0).size(),
            threads.get(1).size(), threads.get(2).size(), begins, kept.size()}[what];
    }

    long digest() {
        List<Integer> values = new ArrayList<>();
        for (int what = 0; what < 9; what++) {
            values.add(told(what));
        }
        for (int t = 0; t < 3; t++) {
            for (int i = 0; i < threads.get(t).size(); i++) {
                for (int what = 0; what < 5; what++) {
                    values.add(of(t, i, what));
                }
            }
        }
        for (int what = 0; what < 4; what++) {
            values.add(orders(what));
        }
        values.add(races());
        for (int what = 0; what < 6; what++) {
            values.add(run(what));
        }
        values.addAll(allEnds());
        long h = 2593;
        for (int v : values) {
            h = 31 * h + v;
        }
        return h;
    }
}
