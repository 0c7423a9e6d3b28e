import java.util.regex.Matcher;
import java.util.regex.Pattern;

/**
 * Calls told in a text, as "step(0,4,1,0)=0 run(5)=NONE", each answer held against the one that
 * is due. So a boundary and one step to each side of it stand on one line. Beside the calls of
 * the face there are
 * <ul>
 * <li>steps[0wa1;1l0;]: each step by step(); told[..]: bytes by clear() and type(); does[0012]:
 *     the run goes on; none of these may be refused;
 * <li>text[..]=N: told[..], and what reads() answers;
 * <li>rows[]=01,10: all first orders, from sort 0 on; "-" for one without any thread.
 * </ul>
 */
final class Calls {
    private static final Pattern CALL =
        Pattern.compile("\\G\\s*([a-z]+)(?:\\(([^)]*)\\)|\\[([^\\]]*)\\])(?:=(\\S+))?");
    private static final String KINDS = "wacklf";

    private final Due due;
    private final StepOrders x;

    Calls(Due due, StepOrders x) {
        this.due = due;
        this.x = x;
    }

    /** Makes the calls; what is printed of a wrong one begins with the sentence it is about. */
    void make(String about, String calls) {
        Matcher m = CALL.matcher(calls);
        int end = 0;
        while (m.find()) {
            end = m.end();
            String upToIt = about + ": " + calls.substring(0, end).strip();
            if (m.group(2) == null) {
                row(upToIt, m.group(1), m.group(3), m.group(4));
            } else {
                due.is(upToIt, call(m.group(1), numbers(m.group(2))), number(needed(m.group(4))));
            }
        }
        if (!calls.substring(end).isBlank()) {
            throw new IllegalArgumentException("no call: " + calls.substring(end));
        }
    }

    private static String needed(String answer) {
        if (answer == null) {
            throw new IllegalArgumentException("a call without an answer");
        }
        return answer;
    }

    private static int[] numbers(String list) {
        String[] each = list.isBlank() ? new String[0] : list.split(",");
        int[] numbers = new int[each.length];
        for (int k = 0; k < each.length; k++) {
            numbers[k] = (int) number(each[k].strip());
        }
        return numbers;
    }

    private static long number(String told) {
        return switch (told) {
            case "NONE" -> -1;
            case "BAD" -> -2;
            case "NO" -> -3;
            case "FULL" -> -4;
            case "LEAST" -> Integer.MIN_VALUE;
            case "MOST" -> Integer.MAX_VALUE;
            default -> Long.parseLong(told);
        };
    }

    private long call(String name, int[] a) {
        return switch (name) {
            case "step" -> x.step(a[0], a[1], a[2], a[3]);
            case "drops" -> x.drops(a[0]);
            case "number" -> x.number(a[0], a[1]);
            case "of" -> x.of(a[0], a[1], a[2]);
            case "depend" -> x.depend(a[0], a[1], a[2], a[3]);
            case "orders" -> x.orders(a[0]);
            case "order" -> x.order(a[0], a[1]);
            case "sort" -> x.sort(a[0], a[1]);
            case "ends" -> x.ends(a[0]);
            case "race" -> x.race(a[0], a[1], a[2], a[3]);
            case "races" -> x.races();
            case "does" -> x.does(a[0]);
            case "again" -> x.again();
            case "run" -> x.run(a[0]);
            case "which" -> x.which();
            case "type" -> x.type(a[0]);
            case "clear" -> x.clear();
            case "reads" -> x.reads();
            case "back" -> x.back();
            case "told" -> x.told(a[0]);
            case "digest" -> x.digest();
            default -> throw new IllegalArgumentException(name);
        };
    }

    private void row(String upToIt, String name, String inside, String answer) {
        switch (name) {
            case "steps" -> steps(upToIt, inside);
            case "told" -> told(upToIt, inside);
            case "does" -> does(upToIt, inside);
            case "text" -> {
                told(upToIt, inside);
                due.is(upToIt, x.reads(), number(needed(answer)));
            }
            case "rows" -> due.same(upToIt, rows(), needed(answer));
            default -> throw new IllegalArgumentException(name);
        }
    }

    private void steps(String upToIt, String inside) {
        for (String one : inside.split(";")) {
            int t = one.charAt(0) - '0';
            int sort = KINDS.indexOf(one.charAt(1));
            int n = one.charAt(2) - (sort >= 4 ? '0' : 'a');
            int v = sort >= 4 ? 0 : one.charAt(3) - (sort == 2 ? 'a' : '0');
            int i = x.told(4 + t);
            due.is(upToIt, x.step(t, sort, n, v), i);
        }
    }

    private void told(String upToIt, String inside) {
        x.clear();
        for (int k = 0; k < inside.length(); k++) {
            due.is(upToIt, x.type(inside.charAt(k)), k + 1);
        }
    }

    private void does(String upToIt, String inside) {
        for (int k = 0; k < inside.length(); k++) {
            int t = inside.charAt(k) - '0';
            due.is(upToIt + " at " + k, x.does(t) >= 0 ? 1 : 0, 1);
        }
    }

    private String rows() {
        StringBuilder rows = new StringBuilder();
        for (int s = 0; s < x.orders(0); s++) {
            rows.append(s == 0 ? "" : ",").append(row(x, s));
        }
        return rows.toString();
    }

    /** The first order of a sort, a figure a thread. */
    static String row(StepOrders x, int s) {
        StringBuilder row = new StringBuilder();
        for (int k = 0; k < x.order(s, -1); k++) {
            row.append(x.order(s, k));
        }
        return row.isEmpty() ? "-" : row.toString();
    }
}
