import java.io.IOException;
import java.math.BigInteger;
import java.util.List;

/**
 * The sentences of "Promise 1" to "Promise 22", one after the other: the calls that reach each
 * boundary, and one step to each side of it. What a sentence takes from "Terms" is gone into in
 * TermsTests.
 */
public final class EdgeTests {
    private static final String ALL_TWELVE = "0wa1;0wa2;0wa3;0wa4;1wa5;1wa6;1wa7;1wa8;2wa9;2wa0;2wa1;2wa2;";

    private final Sentences doc;
    private int promise;

    private EdgeTests(Sentences doc) {
        this.doc = doc;
    }

    private void names(String words) {
        doc.names("Promise " + promise, words);
    }

    private void run(String calls) {
        doc.run(calls);
    }

    private void newObject() {
        promise = 1;
        names("As told; no STEPS.");
        run("told(0)=0 told(1)=0 told(2)=0 told(3)=0 told(4)=0 told(5)=0 told(6)=0 told(7)=0 told(8)=0");
        run("orders(0)=1 orders(1)=0 orders(2)=0 orders(3)=1 races()=0 ends(0)=0 ends(1)=-5 order(0,NONE)=0 sort(0,2)=0");
        run("run(0)=0 run(1)=0 run(2)=0 run(3)=0 run(4)=NONE run(5)=NONE which()=0 clear()=0 of(0,0,0)=BAD of(2,0,0)=BAD");
        run("drops(0)=NO drops(1)=NO drops(2)=NO does(0)=NO does(1)=NO does(2)=NO back()=NO again()=0 reads()=-10");
        run("step(0,0,0,0)=0 told(4)=1 told(5)=0 told(6)=0 told(8)=1");
        StepOrders one = new StepOrders();
        StepOrders other = new StepOrders();
        doc.runOn(one, "number(0,7)=0 steps[0aa1;1l0;] does(1)=0 does(7)=BAD type(48)=1");
        doc.runOn(other, "told(0)=0 told(3)=0 told(4)=0 told(5)=0 told(7)=0 told(8)=0 run(4)=NONE ends(0)=0 orders(3)=1");
        doc.runOn(one, "told(0)=1 told(3)=1 told(4)=1 told(7)=7000 told(8)=4 run(4)=1 ends(0)=8000");
    }

    private void step() {
        promise = 2;
        names("A STEP of a THREAD, the last one: its number.");
        run("step(1,0,0,1)=0 step(1,1,1,2)=1 step(2,2,2,3)=0 step(1,3,3,3)=2 step(1,4,1,0)=3 of(1,0,0)=0 of(1,1,0)=1 of(1,2,0)=3"
            + " of(1,3,0)=4 of(2,0,0)=2 told(4)=0 told(5)=4 told(6)=1");
        run("step(0,0,0,1)=0 step(0,0,0,2)=1 drops(0)=1 step(0,0,0,3)=1 of(0,0,2)=1 of(0,1,2)=3 back()=3 back()=2 of(0,1,2)=2");
        names("S.");
        run("told(8)=0 step(0,0,0,0)=0 told(8)=1 step(3,0,0,0)=BAD told(8)=1 step(0,0,0,0)=1 step(0,0,0,0)=2 step(0,0,0,0)=3 told(8)=4"
            + " step(0,0,0,0)=FULL told(8)=4 back()=3 told(4)=3");
        names("BAD;");
        badSteps();
        names("FULL: 4.");
        run("step(2,0,0,0)=0 step(2,0,0,0)=1 step(2,0,0,0)=2 step(2,0,0,0)=3 told(2)=0 step(2,0,0,0)=FULL told(2)=1 step(1,0,0,0)=0"
            + " drops(2)=3 step(2,0,0,0)=3 step(2,5,1,0)=FULL told(2)=2 told(6)=4");
    }

    /** Every sort, with x and v around their bounds. */
    private void badSteps() {
        int[] near = {Integer.MIN_VALUE, -2, -1, 0, 1, 2, 3, 4, 9, 10, 11, Integer.MAX_VALUE};
        for (int sort = -1; sort < 7; sort++) {
            for (int x : near) {
                for (int v : near) {
                    boolean lock = sort == 4 || sort == 5;
                    int mostV = lock ? 0 : sort == 2 ? 3 : 9;
                    boolean fine = sort >= 0 && sort <= 5 && x >= 0 && x <= (lock ? 1 : 3) && v >= 0 && v <= mostV;
                    run("step(1," + sort + "," + x + "," + v + ")=" + (fine ? "0" : "BAD") + " told(0)=" + (fine ? 0 : 1)
                        + " told(5)=" + (fine ? 1 : 0));
                }
            }
        }
    }

    private void drops() {
        promise = 3;
        names("The last STEP of a THREAD goes: how many it has left.");
        run("steps[0wa1;0wa2;0wa3;0wa4;1wb1;] drops(0)=3 of(0,2,2)=3 of(0,3,2)=BAD drops(0)=2 drops(0)=1 of(0,0,2)=1 drops(0)=0"
            + " of(0,0,2)=BAD told(4)=0 told(5)=1 of(1,0,1)=1");
        names("S.");
        run("steps[2wa1;] told(8)=1 drops(2)=0 told(8)=2 drops(2)=NO drops(3)=BAD told(8)=2 back()=1 told(6)=1");
        names("BAD;");
        run("steps[0wa1;1wa1;2wa1;] drops(-1)=BAD drops(3)=BAD drops(LEAST)=BAD drops(MOST)=BAD told(0)=4 told(4)=1 told(5)=1 told(6)=1");
        names("NO: it has none.");
        run("drops(1)=NO steps[1wa1;] drops(1)=0 drops(1)=NO drops(0)=NO drops(2)=NO told(1)=4 told(0)=0");
    }

    private void number() {
        promise = 4;
        names("A NUMBER begins as v: what it did.");
        run("number(0,0)=0 number(0,9)=0 number(0,8)=9 number(0,8)=8 number(0,0)=8 number(0,1)=0 told(7)=1000");
        run("number(3,4)=0 number(2,5)=0 number(3,6)=4 number(2,7)=5 told(7)=76 steps[0wd9;] does(0)=0 run(3)=79 number(3,1)=6 run(3)=71");
        names("S.");
        run("number(0,5)=0 told(8)=1 number(0,5)=5 told(8)=2 number(0,10)=BAD number(4,5)=BAD told(8)=2 back()=1 back()=0 told(7)=0");
        names("BAD.");
        run("number(-1,0)=BAD number(4,0)=BAD number(0,-1)=BAD number(0,10)=BAD number(3,10)=BAD number(3,-1)=BAD number(LEAST,0)=BAD"
            + " number(MOST,0)=BAD number(0,LEAST)=BAD number(0,MOST)=BAD told(0)=10 told(7)=0 number(3,9)=0 number(0,0)=0 told(0)=10");
    }

    private void of() {
        promise = 5;
        names("Of STEP i of a THREAD: SORT (what 0), x (1), v (2), READS (3, bits of NUMBERS), WRITES (4, bits).");
        run("steps[0wb9;0ac8;0cda;0kd7;1l1;1f0;]"
            + " of(0,0,0)=0 of(0,0,1)=1 of(0,0,2)=9 of(0,0,3)=0 of(0,0,4)=2 of(0,1,0)=1 of(0,1,1)=2 of(0,1,2)=8 of(0,1,3)=4 of(0,1,4)=4"
            + " of(0,2,0)=2 of(0,2,1)=3 of(0,2,2)=0 of(0,2,3)=1 of(0,2,4)=8 of(0,3,0)=3 of(0,3,1)=3 of(0,3,2)=7 of(0,3,3)=8 of(0,3,4)=0"
            + " of(1,0,0)=4 of(1,0,1)=1 of(1,0,2)=0 of(1,0,3)=0 of(1,0,4)=0 of(1,1,0)=5 of(1,1,1)=0 of(1,1,2)=0 of(1,1,3)=0 of(1,1,4)=0");
        run("steps[0wa1;] of(0,0,-1)=BAD of(0,0,0)=0 of(0,0,4)=1 of(0,0,5)=BAD of(0,0,LEAST)=BAD of(0,0,MOST)=BAD told(0)=4 told(8)=1");
        names("BAD: not so many.");
        run("of(0,0,0)=BAD steps[0wa1;] of(0,0,0)=0 of(0,1,0)=BAD of(1,0,0)=BAD of(2,0,0)=BAD of(0,-1,0)=BAD of(3,0,0)=BAD of(-1,0,0)=BAD"
            + " steps[0wa2;0wa3;0wa4;] of(0,3,2)=4 of(0,4,2)=BAD drops(0)=3 of(0,3,2)=BAD of(0,2,2)=3 told(0)=9");
        run("steps[0wa1;0wa2;1wb5;] of(1,0,1)=1 of(0,-4,0)=BAD of(1,-1,0)=BAD of(0,4,0)=BAD of(2,-4,0)=BAD of(0,5,0)=BAD");
    }

    private void depend() {
        promise = 6;
        names("Whether STEP i of THREAD t and STEP j of THREAD u DEPEND on one another: 1, 0.");
        run("steps[0wa1;0l1;1wb1;1ka0;2f1;2caa;] depend(0,0,1,0)=0 depend(0,0,1,1)=1 depend(0,1,2,0)=1 depend(0,1,2,1)=0 depend(0,0,2,1)=1"
            + " depend(1,1,2,1)=1 depend(2,1,1,1)=1 depend(1,0,2,1)=0 depend(0,0,0,1)=1 depend(2,1,2,0)=1 told(0)=0 told(8)=5");
        names("BAD: the same one, too.");
        run("steps[0wa1;0wa1;1wa1;] depend(0,0,0,0)=BAD depend(0,0,0,1)=1 depend(0,1,0,0)=1 depend(0,1,0,1)=BAD depend(0,0,1,0)=1"
            + " depend(1,0,1,0)=BAD depend(0,2,1,0)=BAD depend(1,0,0,2)=BAD depend(1,1,0,0)=BAD depend(2,0,0,0)=BAD depend(0,0,2,0)=BAD"
            + " depend(-1,0,0,0)=BAD depend(3,0,0,0)=BAD depend(0,-1,1,0)=BAD depend(0,0,1,-1)=BAD depend(0,0,3,0)=BAD depend(0,0,-1,0)=BAD"
            + " depend(LEAST,0,0,0)=BAD depend(0,0,0,MOST)=BAD depend(0,LEAST,0,LEAST)=BAD told(0)=17");
    }

    private void orders() {
        promise = 7;
        names("How many SORTS of ORDERS (what 0),");
        run("orders(0)=1 steps[0wa1;] orders(0)=1 steps[1wa2;] orders(0)=2 steps[2wa3;] orders(0)=6 drops(1)=0 orders(0)=2 back()=3 orders(0)=6");
        run("steps[" + ALL_TWELVE + "] orders(0)=34650 drops(2)=3 orders(0)=11550 drops(2)=2 drops(2)=1 drops(2)=0 orders(0)=70");
        run("steps[0ka0;0ka0;0ka0;0ka0;1ka0;1ka0;1ka0;1ka0;2ka0;2ka0;2ka0;2ka0;] orders(0)=1 drops(2)=3 steps[2wa0;] orders(0)=25");
        run("steps[0wa1;] orders(0)=1 ends(0)=1000 drops(0)=0 steps[0wa2;] ends(0)=2000 orders(3)=1 back()=2 back()=1 ends(0)=1000");
        run("steps[0wa1;1wa1;] orders(0)=2 drops(1)=0 steps[1wb1;] orders(0)=1 drops(1)=0 drops(0)=0 steps[0wb2;1wb2;] orders(0)=2 ends(0)=200");
        run("steps[0wa1;0wa2;] ends(0)=2000 drops(0)=1 steps[0wa3;] ends(0)=3000 drops(0)=1 steps[1wa4;] orders(0)=2 ends(1)=4000");
        names("that END at a STANDSTILL (1),");
        run("orders(1)=0 steps[0l0;] orders(1)=0 steps[1l0;] orders(1)=2 steps[0f0;] orders(0)=2 orders(1)=1 steps[1f0;] orders(1)=0"
            + " steps[2f1;] orders(1)=2 number(0,1)=0 orders(1)=2 drops(2)=0 orders(1)=0");
        names("that have WRONG ones (2),");
        run("orders(2)=0 steps[0ka0;] orders(2)=0 steps[1wa1;] orders(2)=1 steps[0ka0;] orders(0)=3 orders(2)=2 number(0,1)=0 orders(2)=3"
            + " drops(1)=0 orders(2)=1 number(0,0)=1 orders(2)=0");
        names("how many unlike ENDS (3).");
        run("orders(3)=1 steps[0wa1;1wa1;] orders(0)=2 orders(3)=1 drops(1)=0 steps[1wa2;] orders(3)=2 steps[2wa3;] orders(3)=3 orders(0)=6"
            + " drops(2)=0 drops(1)=0 orders(3)=1");
        run("steps[0l0;0wa1;1l0;1wb1;] orders(3)=2 orders(1)=2 steps[2wc1;] orders(3)=2 ends(0)=110 ends(1)=1010");
        names("BAD.");
        run("orders(-1)=BAD orders(0)=1 orders(3)=1 orders(4)=BAD orders(LEAST)=BAD orders(MOST)=BAD told(0)=4 told(8)=0");
    }

    private void order() {
        promise = 8;
        names("Of the first ORDER of the s-th SORT the k-th THREAD (0 on);");
        run("steps[0wb1;1wa1;2wa1;] order(0,0)=0 order(0,1)=1 order(0,2)=2 order(1,0)=0 order(1,1)=2 order(1,2)=1");
        run("steps[" + ALL_TWELVE + "] order(0,0)=0 order(0,3)=0 order(0,4)=1 order(0,7)=1 order(0,8)=2 order(0,11)=2 order(1,7)=2 order(1,8)=1"
            + " order(34649,0)=2 order(34649,3)=2 order(34649,4)=1 order(34649,11)=0 order(34648,7)=0 order(34648,8)=1 order(34650,0)=NO");
        names("how many (k NONE);");
        run("order(0,-1)=0 steps[0wa1;1wa1;2f0;] order(0,-1)=2 order(1,-1)=2 order(2,-1)=NO order(0,-2)=BAD");
        run("steps[0l0;1l0;1f0;] order(0,-1)=1 order(1,-1)=3");
        run("steps[" + ALL_TWELVE + "] order(0,-1)=12 order(34649,-1)=12 order(34650,-1)=NO");
        names("-5: not so many.");
        run("order(0,0)=-5 order(0,MOST)=-5 steps[0wa1;] order(0,0)=0 order(0,1)=-5 steps[2f0;] order(0,0)=0 order(0,1)=-5 told(0)=0 told(1)=0");
        run("steps[" + ALL_TWELVE + "] order(0,11)=2 order(0,12)=-5 order(0,13)=-5 order(0,16)=-5 order(34649,11)=0 order(34649,12)=-5");
        names("BAD: s, k below 0 (but NONE), too;");
        run("steps[0wa1;] order(-1,0)=BAD order(0,0)=0 order(0,-1)=1 order(0,-2)=BAD order(LEAST,0)=BAD order(0,LEAST)=BAD order(-1,-1)=BAD"
            + " order(1,-2)=BAD told(0)=6 told(1)=0");
        names("NO: not so many SORTS.");
        run("order(0,0)=-5 order(1,0)=NO order(1,-1)=NO order(MOST,0)=NO steps[0wa1;1wa1;] order(1,0)=1 order(2,0)=NO order(2,MOST)=NO told(1)=5");
    }

    private void sort() {
        promise = 9;
        names("Of the s-th SORT: ENDS (what 0), WRONG ones (1), whether it is a STANDSTILL (2: 1, 0).");
        run("steps[0wa1;1ka0;1wa2;] rows[]=011,101,110 sort(0,0)=2000 sort(0,1)=1 sort(0,2)=0 sort(1,0)=2000 sort(1,1)=0 sort(1,2)=0"
            + " sort(2,0)=1000 sort(2,1)=0 steps[2l0;2l0;] sort(0,2)=1 sort(2,2)=1 sort(2,0)=1000");
        run("steps[0l0;0kd1;1l0;1kd1;1f0;] rows[]=00,11100 sort(0,1)=1 sort(0,2)=1 sort(1,1)=2 sort(1,2)=0 number(3,1)=0 sort(1,1)=0 sort(1,0)=1");
        run("steps[" + ALL_TWELVE + "] sort(0,0)=2000 sort(34649,0)=4000 sort(34649,2)=0 sort(34650,0)=NO");
        run("sort(0,-1)=BAD sort(0,0)=0 sort(0,2)=0 sort(0,3)=BAD sort(0,LEAST)=BAD sort(0,MOST)=BAD told(0)=4");
        names("BAD: s below 0, too;");
        run("sort(-1,0)=BAD sort(0,0)=0 sort(LEAST,0)=BAD sort(-1,3)=BAD sort(1,3)=BAD sort(1,-1)=BAD told(0)=5 told(1)=0");
        names("NO, likewise.");
        run("sort(0,2)=0 sort(1,0)=NO sort(1,2)=NO sort(MOST,1)=NO steps[0wa1;1wa1;] sort(1,0)=1000 sort(2,0)=NO drops(0)=0 sort(1,0)=NO told(1)=5");
    }

    private void ends() {
        promise = 10;
        names("The i-th of all ENDS, rising, each once (0 on);");
        run("ends(0)=0 steps[0wa9;1wa3;2wa5;2wd1;] ends(0)=3001 ends(1)=5001 ends(2)=9001 ends(3)=-5");
        run("steps[0wd1;1wd1;] orders(0)=2 ends(0)=1 ends(1)=-5 drops(0)=0 steps[0wd0;] ends(0)=0 ends(1)=1 ends(2)=-5");
        run("number(0,9)=0 number(1,9)=0 number(2,9)=0 steps[0wd9;1wd8;] ends(0)=9998 ends(1)=9999 ends(2)=-5 number(0,0)=9 ends(0)=998"
            + " ends(1)=999 ends(2)=-5");
        run("steps[0l0;0wa1;1l0;1wb1;] ends(0)=100 ends(1)=1000 ends(2)=-5");
        names("-5: not so many.");
        run("ends(0)=0 ends(1)=-5 ends(2)=-5 ends(9999)=-5 ends(10000)=-5 ends(MOST)=-5 told(0)=0 told(1)=0");
        names("BAD: i below 0.");
        run("ends(-1)=BAD ends(0)=0 ends(LEAST)=BAD told(0)=2");
    }

    private void race() {
        promise = 11;
        names("RACE of STEP i of THREAD t and STEP j of THREAD u: 1, 0.");
        run("steps[0wa1;0l0;0wb1;0f0;1l0;1wb2;1f0;1wa2;2kb0;] race(0,0,1,3)=1 race(1,3,0,0)=1 race(0,2,1,1)=0 race(1,1,0,2)=0 race(2,0,0,2)=1"
            + " race(2,0,1,1)=1 race(0,1,1,0)=0 race(0,0,2,0)=0 races()=3 told(0)=0 told(8)=5");
        racing("0l0;0wa1;0f0;1l0;1wa2;1f0;2ka1;", "01-20", "11-20");
        racing("1l0;1wa1;2l0;2wa2;");
        racing("0l1;0wa1;2l1;2wa2;1wa3;", "01-10", "10-21");
        racing("0l1;0wa1;1l1;1wa2;2l0;2wa3;2f0;", "01-21", "11-21");
        besideAllFour();
        names("BAD: the same THREAD, too.");
        run("steps[0wa1;0wa1;1wa1;] race(0,0,0,1)=BAD race(0,1,0,0)=BAD race(0,0,0,0)=BAD race(0,0,1,0)=1 race(0,1,1,0)=1 race(1,0,1,0)=BAD"
            + " race(0,2,1,0)=BAD race(1,0,0,2)=BAD race(1,1,0,0)=BAD race(2,0,0,0)=BAD race(0,0,2,0)=BAD race(-1,0,0,0)=BAD race(3,0,0,0)=BAD"
            + " race(0,-1,1,0)=BAD race(0,0,1,-1)=BAD race(0,0,3,0)=BAD race(0,0,-1,0)=BAD race(LEAST,0,0,0)=BAD race(0,0,1,MOST)=BAD told(0)=17");
    }

    /** Asks of each two steps, both ways round; just those named, as "00-10", are a race. */
    private void racing(String steps, String... pairs) {
        StepOrders x = new StepOrders();
        doc.runOn(x, "steps[" + steps + "]");
        int found = 0;
        for (int a = 0; a < 12; a++) {
            for (int b = 0; b < 12; b++) {
                int t = a / 4;
                int i = a % 4;
                int u = b / 4;
                int j = b % 4;
                if (t != u && i < x.told(4 + t) && j < x.told(4 + u)) {
                    boolean race = List.of(pairs).contains("" + t + i + "-" + u + j) || List.of(pairs).contains("" + u + j + "-" + t + i);
                    found += race && t < u ? 1 : 0;
                    doc.is("steps[" + steps + "] race(" + t + "," + i + "," + u + "," + j + ")", x.race(t, i, u, j), race ? 1 : 0);
                }
            }
        }
        doc.is("steps[" + steps + "] pairs named", found, pairs.length);
        doc.is("steps[" + steps + "] races()", x.races(), pairs.length);
    }

    /** A thread that has done all its four steps, beside one that can not do its first. */
    private void besideAllFour() {
        int[][] others = {{0, 1, 2}, {0, 2, 1}, {1, 0, 2}, {1, 2, 0}, {2, 0, 1}, {2, 1, 0}};
        for (int[] o : others) {
            String stuck = "@f0;@wa1;".replace("@", "" + o[0]);
            String full = "@wb1;@wb1;@wb1;@wb1;".replace("@", "" + o[1]);
            String one = "@wa1;".replace("@", "" + o[2]);
            racing(stuck + full + one);
            racing(stuck.replace("f0", "l0") + full + one, o[0] + "1-" + o[2] + "0");
            racing(full + one.replace("a", "b") + stuck, o[1] + "0-" + o[2] + "0", o[1] + "1-" + o[2] + "0", o[1] + "2-" + o[2] + "0",
                o[1] + "3-" + o[2] + "0");
        }
    }

    private void races() {
        promise = 12;
        names("How many RACES there are, each two once.");
        run("races()=0 steps[0wa1;] races()=0 steps[0wa1;] races()=0 steps[1ka1;] races()=2 steps[2ka1;] races()=4 steps[2wa1;] races()=7"
            + " drops(0)=1 races()=4 drops(0)=0 races()=1");
        run("steps[" + ALL_TWELVE + "] races()=48 drops(0)=3 races()=40");
        run("steps[0l0;0wa1;0f0;1l0;1wa2;1f0;] races()=0 drops(1)=2 races()=0 steps[2wa1;] races()=2 drops(0)=2 drops(0)=1 races()=1");
        run("steps[1wb1;2wb1;] races()=1 drops(1)=0 steps[0wb1;] races()=1 told(0)=0");
    }

    private void does() {
        promise = 13;
        names("In the RUN the next STEP of a THREAD is done: WRONG ones so far.");
        run("steps[0ka1;0wa1;0ka1;0ka2;1ka1;] does(0)=1 run(1)=1 does(0)=1 does(0)=1 does(1)=1 does(0)=2 run(1)=5 run(2)=2 does(0)=NO does(1)=NO");
        run("steps[0kd1;0kd1;0kd1;0kd1;1kd1;1kd1;1kd1;1kd1;2kd1;2kd1;2kd1;2kd1;] does[00001111] does(2)=9 does(2)=10 does(2)=11 does(2)=12"
            + " does(2)=NO run(2)=12 run(1)=12 which()=0");
        names("S.");
        run("steps[0wa1;] told(8)=1 does(0)=0 told(8)=2 does(0)=NO does(3)=BAD told(8)=2 back()=1 run(1)=0 does(0)=0");
        names("BAD;");
        run("steps[0wa1;2wa1;] does(-1)=BAD does(3)=BAD does(LEAST)=BAD does(MOST)=BAD does(0)=0 does(2)=0 told(0)=4 told(1)=0");
        names("NO: it can not be done, there is none.");
        run("does(0)=NO does(1)=NO does(2)=NO steps[0l0;1l0;2f0;1wa1;] does(2)=NO does(0)=0 does(0)=NO does(1)=NO run(1)=1 told(1)=6 told(0)=0");
        run("steps[0l1;0f1;1l1;1f1;] does(0)=0 does(1)=NO does(0)=0 does(1)=0 does(0)=NO does(1)=0 does(1)=NO told(1)=3");
        run("steps[0f0;0wa1;] does(0)=NO run(3)=0 run(1)=0");
    }

    private void again() {
        promise = 14;
        names("The RUN begins again: how many STEPS were done.");
        run("again()=0 steps[0wa1;0l0;1ka0;] does(0)=0 again()=1 run(1)=0 run(3)=0 does[001] run(2)=1 run(4)=0 again()=3 run(1)=0 run(2)=0"
            + " run(3)=0 run(4)=NONE run(0)=3 told(4)=2 again()=0");
        run("steps[" + ALL_TWELVE + "] does[012012012012] again()=12 again()=0 number(2,4)=0 does(0)=0 again()=1 run(3)=40");
        names("S.");
        run("told(8)=0 again()=0 told(8)=1 steps[0wa1;] does(0)=0 again()=1 told(8)=4 back()=3 run(1)=1 back()=2 run(1)=0");
    }

    private void run() {
        promise = 15;
        names("In the RUN: THREADS whose next STEP can be done (what 0, bits), STEPS done (1), WRONG ones (2), NUMBERS as ENDS are told (3),"
            + " who holds LOCK 0 (4), LOCK 1 (5; NONE: it is free).");
        run("run(0)=0 steps[0l0;0wd7;] run(0)=1 steps[1l0;] run(0)=3 steps[2l1;2ka3;2f1;] run(0)=7 run(1)=0 does(0)=0 run(0)=5 run(1)=1 run(4)=0"
            + " run(5)=NONE does[22] run(0)=5 run(1)=3 run(2)=1 run(4)=0 run(5)=2 does(2)=1 run(5)=NONE run(0)=1 does(0)=1 run(3)=7 run(0)=0"
            + " run(1)=5");
        run("steps[1l0;1l1;1f0;1f1;] run(4)=NONE does(1)=0 run(4)=1 run(5)=NONE does(1)=0 run(4)=1 run(5)=1 does(1)=0 run(4)=NONE run(5)=1"
            + " does(1)=0 run(4)=NONE run(5)=NONE");
        run("number(0,9)=0 number(3,9)=0 run(3)=9009 steps[0wb9;0wc9;] does[00] run(3)=9999");
        names("BAD.");
        run("run(-1)=BAD run(0)=0 run(5)=NONE run(6)=BAD run(LEAST)=BAD run(MOST)=BAD told(0)=4");
    }

    private void which() {
        promise = 16;
        names("The number of the SORT of the RUN, if it is an ORDER;");
        run("which()=0 steps[0wa1;1wa1;] does[01] which()=0 again()=2 does[10] which()=1");
        run("steps[0wa1;1wb1;] does[10] which()=0 again()=2 does[01] which()=0");
        run("steps[0l0;1l0;] does(0)=0 which()=0 again()=1 does(1)=0 which()=1");
        run("steps[0f0;] which()=0 told(0)=0 told(1)=0");
        run("steps[" + ALL_TWELVE + "] does[000011112222] which()=0 again()=12 does[222211110000] which()=34649 back()=4 which()=NONE"
            + " does(0)=0 which()=34649");
        run("steps[" + ALL_TWELVE + "] does[000011112222] which()=0 again()=12 does[000011121222] which()=1 again()=12 does[222211101000]"
            + " which()=34648");
        names("NONE: it goes on yet.");
        run("steps[0wa1;0wa1;] which()=NONE does(0)=0 which()=NONE does(0)=0 which()=0 told(1)=0");
        run("steps[0l0;1l0;2wa1;] does(0)=0 which()=NONE does(2)=0 which()=0");
    }

    private void type() {
        promise = 17;
        names("A byte (0 .. 127) comes behind THE TEXT: how many it has.");
        run("type(-1)=BAD type(0)=1 type(127)=2 type(128)=BAD told(3)=2 type(48)=3 type(48)=4 clear()=4 type(48)=1 told(8)=0");
        run("told[0wa] type(53)=4 type(59)=5 reads()=1 of(0,0,2)=5");
        names("BAD;");
        run("type(-1)=BAD type(128)=BAD type(255)=BAD type(256)=BAD type(304)=BAD type(LEAST)=BAD type(MOST)=BAD told(0)=7 told(3)=0");
        names("FULL: 120.");
        run("told[" + " ".repeat(118) + "] type(32)=119 type(32)=120 type(32)=FULL type(32)=FULL told(3)=120 told(2)=2 clear()=120 type(32)=1");
    }

    private void clear() {
        promise = 18;
        names("THE TEXT is empty: how many it had.");
        run("clear()=0 type(48)=1 clear()=1 clear()=0 told(3)=0 reads()=-10 told[0wa1;] clear()=5 reads()=-10 type(48)=1 reads()=-11");
        run("told[" + " ".repeat(120) + "] clear()=120 clear()=0 type(48)=1 told(8)=0 told(2)=0");
        run("steps[0wa1;] does(0)=0 told[0wa1;] clear()=5 told(4)=1 run(1)=1 told(8)=2");
    }

    private void reads() {
        promise = 19;
        names("STEPS come as THE TEXT tells (it stays): how many.");
        run("told[0wa1;] reads()=1 told(3)=5 told(4)=1 reads()=1 told(4)=2 told(3)=5 type(49)=6 reads()=-16 told(4)=2");
        run("told[0wa1;2cbd;1kc9;0ad0;1l1;1f0;] reads()=6 told(4)=2 told(5)=3 told(6)=1 of(0,0,0)=0 of(0,1,0)=1 of(1,0,0)=3 of(1,1,0)=4"
            + " of(1,2,0)=5 of(2,0,0)=2 of(2,0,2)=3 clear()=28");
        run("text[0wa1;0wa1;0wa1;0wa1;1wa1;1wa1;1wa1;1wa1;2wa1;2wa1;2wa1;2wa1;]=12 orders(0)=34650 back()=0 told(4)=0 told(5)=0 told(6)=0 told(3)=60");
        names("S (one STATE for all).");
        run("told(8)=0 text[0wa1;1wa1;2wa1;]=3 told(8)=1 back()=0 told(4)=0 told(5)=0 told(6)=0 back()=NO");
        run("steps[0wa9;] does(0)=0 text[0wa1;0wa1;]=2 told(8)=3 back()=2 told(4)=1 run(1)=1 text[0wa1;3]=-15 told(8)=2");
        names("-10 less the FAULT.");
        run("reads()=-10 text[0]=-11 text[0w]=-12 text[0wa;]=-13 text[0wa1;0wa1;x]=-20 told(0)=0 told(1)=0 told(2)=0");
        run("told[" + " ".repeat(119) + "] type(59)=120 reads()=-129 clear()=120 told[" + " ".repeat(120) + "] reads()=-130");
    }

    private void back() {
        promise = 20;
        names("A STATE back: how many can be yet.");
        run("steps[0wa1;0wa2;] back()=1 told(4)=1 told(8)=1 back()=0 told(4)=0 told(8)=0 step(0,0,0,3)=0 told(8)=1 back()=0");
        run("steps[0wa1;0wa2;0wa3;0wa4;1wa1;1wa2;] told(8)=5 back()=4 told(5)=1 back()=3 back()=2 back()=1 back()=0 told(4)=1 told(5)=0 back()=NO");
        run("steps[0wa1;1wa2;] orders(0)=2 back()=1 orders(0)=1 ends(0)=1000 races()=0 back()=0 ends(0)=0 orders(0)=1");
        names("NO: none.");
        run("back()=NO again()=0 back()=0 back()=NO back()=NO told(1)=3 told(8)=0 told(0)=0");
    }

    private void told() {
        promise = 21;
        names("How often refused: BAD (0), NO (1), FULL (2);");
        run("told(0)=0 does(3)=BAD told(0)=1 told(9)=BAD told(0)=2 told(1)=0 back()=NO told(1)=1 told(2)=0 steps[0wa1;0wa1;0wa1;0wa1;]"
            + " step(0,0,0,0)=FULL told(2)=1 told(0)=2 told(1)=1");
        StepOrders x = new StepOrders();
        for (int k = 1; k <= 150; k++) {
            doc.runOn(x, "told(-1)=BAD told(0)=" + k + " back()=NO");
        }
        doc.runOn(x, "told(0)=150 told(1)=150 told(2)=0");
        names("bytes of THE TEXT (3),");
        run("told(3)=0 type(48)=1 told(3)=1 type(128)=BAD told(3)=1 clear()=1 told(3)=0");
        names("STEPS of THREADS (4 .. 6),");
        run("steps[0wa1;0wa1;0wa1;1wa1;1wa1;2wa1;] told(4)=3 told(5)=2 told(6)=1 drops(2)=0 told(6)=0 step(0,0,0,0)=3 told(4)=4");
        names("NUMBERS as they begin (7, as ENDS),");
        run("told(7)=0 number(3,1)=0 told(7)=1 number(0,9)=0 told(7)=9001 number(1,8)=0 number(2,7)=0 told(7)=9871 steps[0wa1;] does(0)=0"
            + " told(7)=9871");
        names("STATES (8).");
        run("told(8)=0 again()=0 again()=0 again()=0 again()=0 told(8)=4 again()=0 told(8)=5 again()=0 told(8)=5 back()=4 told(8)=4");
        names("BAD.");
        run("told(-1)=BAD told(8)=0 told(9)=BAD told(LEAST)=BAD told(MOST)=BAD told(0)=4");
    }

    private void digest() {
        promise = 22;
        names("h = 2593; then h = 31 h + v for each v: told(0) to told(8); THREAD by THREAD of its STEPS of(0) to of(4);"
            + " orders(0) to orders(3); races(); run(0) to run(5); all ENDS.");
        String[] runs = {"", "steps[0wa1;]", "steps[2ka1;]", "number(3,9)=0 steps[1cba;1l1;] does[11]", "steps[0wa1;1wa2;2wa3;0ka1;] does[012]",
            "told(9)=BAD back()=NO type(1)=1 again()=0", "steps[0wa1;0wa1;0wa1;0wa1;] step(0,0,0,0)=FULL", "steps[0l0;1l0;1f0;2wd9;] does[21]",
            "steps[" + ALL_TWELVE + "] drops(2)=3 does[201201]"};
        for (String calls : runs) {
            StepOrders x = new StepOrders();
            StepOrders twin = new StepOrders();
            doc.runOn(x, calls);
            doc.runOn(twin, calls);
            long due = digestOf(twin);
            doc.is(calls + " digest()", x.digest(), due);
            doc.is(calls + " digest() once more", x.digest(), due);
            doc.runOn(x, "number(1,8)=0 steps[2wc4;]");
            doc.runOn(twin, "number(1,8)=0 steps[2wc4;]");
            doc.is(calls + " digest() behind a change", x.digest(), digestOf(twin));
            doc.is(calls + " back()", x.back(), twin.told(8) - 1);
            twin.back();
            doc.is(calls + " digest() behind back()", x.digest(), digestOf(twin));
        }
    }

    /** By the words alone, in numbers without a bound, wrapped around once at the end. */
    private static long digestOf(StepOrders x) {
        BigInteger h = BigInteger.valueOf(2593);
        for (int what = 0; what <= 8; what++) {
            h = behind(h, x.told(what));
        }
        for (int t = 0; t <= 2; t++) {
            for (int i = 0; i < x.told(4 + t); i++) {
                for (int what = 0; what <= 4; what++) {
                    h = behind(h, x.of(t, i, what));
                }
            }
        }
        for (int what = 0; what <= 3; what++) {
            h = behind(h, x.orders(what));
        }
        h = behind(h, x.races());
        for (int what = 0; what <= 5; what++) {
            h = behind(h, x.run(what));
        }
        for (int i = 0; x.ends(i) != -5; i++) {
            h = behind(h, x.ends(i));
        }
        return h.longValue();
    }

    private static BigInteger behind(BigInteger h, int v) {
        return h.multiply(BigInteger.valueOf(31)).add(BigInteger.valueOf(v));
    }

    private void lastCall() {
        doc.names("What it is", "An object is used for at most 512 calls after it has been made; what later calls answer is free.");
        StepOrders x = new StepOrders();
        for (int call = 1; call <= 510; call++) {
            doc.is("does(-1) as call " + call, x.does(-1), -2);
        }
        doc.runOn(x, "told(0)=510 told(8)=0");
        StepOrders y = new StepOrders();
        doc.is("step(0,1,0,1) as call 1", y.step(0, 1, 0, 1), 0);
        for (int call = 2; call <= 510; call += 2) {
            doc.is("does(0) as call " + call, y.does(0), 0);
            doc.is("again() as call " + (call + 1), y.again(), 1);
        }
        doc.is("told(8) as call 512", y.told(8), 5);
        StepOrders z = new StepOrders();
        doc.runOn(z, "steps[" + ALL_TWELVE + "]");
        for (int call = 25; call <= 511; call += 2) {
            doc.is("number(3) as call " + call, z.number(3, call / 2 % 10), call == 25 ? 0 : (call / 2 - 1) % 10);
            doc.is("orders(0) as call " + (call + 1), z.orders(0), 34650);
        }
    }

    private void all() {
        newObject();
        step();
        drops();
        number();
        of();
        depend();
        orders();
        order();
        sort();
        ends();
        race();
        races();
        does();
        again();
        run();
        which();
        type();
        clear();
        reads();
        back();
        told();
        digest();
        lastCall();
    }

    public static void main(String[] args) throws IOException {
        String[] promises = new String[22];
        for (int k = 0; k < promises.length; k++) {
            promises[k] = "Promise " + (k + 1);
        }
        Sentences doc = new Sentences("EdgeTests", promises);
        doc.alsoPartsOf("What it is");
        new EdgeTests(doc).all();
        doc.end();
    }
}
