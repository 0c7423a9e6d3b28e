/** The sentences of "Terms" about what depends, orders, their sorts and ends, and races. */
final class TermsOfOrders {
    private final Sentences doc;

    TermsOfOrders(Sentences doc) {
        this.doc = doc;
    }

    private void names(String words) {
        doc.names("Terms", words);
    }

    private void run(String calls) {
        doc.run(calls);
    }

    void all() {
        dependByNumber();
        dependByLock();
        dependInOneThread();
        anOrder();
        untilNone();
        endsWell();
        sameSteps();
        sameComesFirst();
        firstOrder();
        numbered();
        ends();
        wrongOnes();
        allHaveTheSame();
        raceByNumber();
        bothNext();
    }

    /** Of a step each, of threads 0 and 1: whether they depend, asked from both sides. */
    private void two(String one, String other, int depend) {
        run("steps[0" + one + ";1" + other + ";] depend(0,0,1,0)=" + depend + " depend(1,0,0,0)=" + depend);
        run("steps[2" + one + ";1" + other + ";] depend(2,0,1,0)=" + depend + " depend(1,0,2,0)=" + depend);
    }

    private void dependByNumber() {
        names("Two STEPS of unlike THREADS DEPEND on one another, if one WRITES a NUMBER that the other one READS or WRITES,");
        String[] onB = {"wb1", "ab1", "cbd", "cdb", "kb1"};
        boolean[] writes = {true, true, true, false, false};
        for (int k = 0; k < onB.length; k++) {
            for (int l = 0; l < onB.length; l++) {
                boolean byD = onB[k].equals("cdb") && (onB[l].equals("cbd") || onB[l].equals("cdb")) || onB[l].equals("cdb") && onB[k].equals("cbd");
                two(onB[k], onB[l], writes[k] || writes[l] || byD ? 1 : 0);
            }
            two(onB[k], "wa1", 0);
            two(onB[k], "wc1", 0);
            two(onB[k], "ac1", 0);
            two(onB[k], "caa", 0);
            two(onB[k], "ka1", 0);
            two(onB[k], "l1", 0);
            two(onB[k], "f1", 0);
        }
        two("ka1", "cba", 0);
        two("cba", "cca", 0);
        two("cba", "ccb", 1);
        two("cba", "cab", 1);
        two("caa", "ka0", 1);
        two("wa2", "wc0", 0);
    }

    private void dependByLock() {
        names("or both are of SORT 4 or 5 with the same LOCK.");
        for (int lock = 0; lock < 2; lock++) {
            for (String one : new String[] {"l", "f"}) {
                for (String other : new String[] {"l", "f"}) {
                    two(one + lock, other + lock, 1);
                    two(one + lock, other + (1 - lock), 0);
                }
                two(one + lock, lock == 0 ? "ka0" : "kb0", 0);
                two(one + lock, lock == 0 ? "wa0" : "wb0", 0);
                two(one + lock, lock == 0 ? "aa0" : "ab0", 0);
                two(one + lock, lock == 0 ? "caa" : "cbb", 0);
            }
        }
    }

    private void dependInOneThread() {
        names("Two of one THREAD always do.");
        for (int t = 0; t < 3; t++) {
            for (int i = 0; i < 4; i++) {
                for (int j = 0; j < 4; j++) {
                    run("steps[@wa1;@wb1;@l0;@kd1;] depend(@,".replace("@", "" + t) + i + "," + t + "," + j + ")="
                        + (i == j ? "BAD" : "1"));
                }
            }
        }
    }

    private void anOrder() {
        names("An ORDER: a row of THREADS, each time the next STEP of that THREAD being done, which can be done then,");
        run("steps[0wa1;1wa2;] rows[]=01,10");
        run("steps[0wa1;0wa2;1wa3;] rows[]=001,010,100");
        run("steps[0l0;0f0;1l0;1f0;] rows[]=0011,1100");
        run("steps[0l0;1l0;] rows[]=0,1");
        run("steps[0l0;1f0;] rows[]=0");
        run("steps[1f0;] rows[]=-");
        run("steps[1f0;1wa1;2wa2;] rows[]=2");
        run("steps[0l0;0l0;0wa1;1wa2;] rows[]=01");
    }

    private void untilNone() {
        names("until no THREAD has one that can be done.");
        run("rows[]=- which()=0");
        run("steps[0wa1;] rows[]=0 which()=NONE does(0)=0 which()=0");
        run("steps[0l0;1l0;2wd1;] rows[]=02,12 does(0)=0 which()=NONE does(2)=0 which()=0");
        run("steps[0l0;1l0;2wd1;] does(2)=0 which()=NONE does(1)=0 which()=1");
        run("steps[0l0;0f0;1l0;] rows[]=001,1 does(1)=0 which()=1");
        run("steps[0l0;0f0;1l0;] does(0)=0 which()=NONE does(0)=0 which()=NONE does(1)=0 which()=0");
    }

    private void endsWell() {
        names("It ENDS WELL, if all STEPS are done, else at a STANDSTILL.");
        run("orders(1)=0 sort(0,2)=0");
        run("steps[0wa1;0wa2;] orders(1)=0 sort(0,2)=0 step(0,5,0,0)=2 orders(1)=1 sort(0,2)=1 drops(0)=2 orders(1)=0");
        run("steps[0f0;] orders(1)=1 sort(0,2)=1 order(0,NONE)=0");
        run("steps[0l0;1l0;1f0;] rows[]=0,110 sort(0,2)=1 sort(1,2)=0 orders(1)=1");
        run("steps[0l0;0f0;1l0;1f0;] orders(0)=2 orders(1)=0 drops(0)=1 rows[]=0,110 orders(1)=1");
        run("steps[0l1;0l0;1l0;1l1;] rows[]=00,01,11 orders(1)=3");
    }

    private void sameSteps() {
        names("Two ORDERS are of one SORT, if the same STEPS are done in both,");
        run("steps[0l0;1l0;2l0;] rows[]=0,1,2");
        run("steps[0l0;1l1;] rows[]=01");
        run("steps[0l0;0wa1;1l0;1wb1;] rows[]=00,11 ends(0)=100 ends(1)=1000");
        run("steps[0l0;0wa1;1l0;1wa1;] rows[]=00,11 orders(3)=1");
    }

    private void sameComesFirst() {
        names("and of each two of them that DEPEND on one another the same one comes first.");
        run("steps[0wa1;1wb1;2wc1;] rows[]=012");
        run("steps[0wa1;1wa1;] rows[]=01,10 orders(3)=1");
        run("steps[0ka1;1ka1;] rows[]=01");
        run("steps[0aa1;1aa2;] rows[]=01,10 orders(3)=1");
        run("steps[0wa1;0wb1;1kb0;] rows[]=001,010");
        run("steps[0l0;0f0;1l1;1f1;] rows[]=0011");
        run("steps[0l0;0f0;1l0;1f0;2wa1;] rows[]=00112,11002");
        run("steps[0wa1;1wa2;2wb1;] rows[]=012,102");
        run("steps[0wa1;1caa;2wa3;] orders(0)=6");
    }

    private void firstOrder() {
        names("SORTS of ORDERS are told by their first ORDER (THREADS of less number first, where they differ first),");
        run("steps[0wb1;1wa1;2wa1;] rows[]=012,021");
        run("steps[0wa1;1wb1;2wa1;2wb1;] rows[]=0122,0221,1202,2021");
        run("steps[0wa1;1wa2;2wa3;] rows[]=012,021,102,120,201,210");
        run("steps[2wa1;1wb1;0wc1;] rows[]=012");
        run("steps[0wd1;0wa1;1wa1;] rows[]=001,010");
        run("steps[1wd1;1wa1;0wa1;] rows[]=011,110");
        run("steps[0wa1;0wb1;1kb0;2ka0;] rows[]=0012,0102,1200,2001");
    }

    private void numbered() {
        names("and numbered from 0 on by these.");
        run("steps[0wa1;1wa2;2wa3;] order(-1,0)=BAD order(0,0)=0 order(0,1)=1 order(5,0)=2 order(5,1)=1 order(6,0)=NO"
            + " sort(-1,0)=BAD sort(0,0)=3000 sort(5,0)=1000 sort(6,0)=NO");
        String[] rows = {"012", "021", "102", "120", "201", "210"};
        for (int s = 0; s < rows.length; s++) {
            run("steps[0wa1;1wa2;2wa3;] does[" + rows[s] + "] which()=" + s);
        }
        String[] alike = {"012", "102", "120", "021", "201", "210"};
        for (int k = 0; k < alike.length; k++) {
            run("steps[0wb1;1wa1;2wa1;] does[" + alike[k] + "] which()=" + k / 3);
        }
    }

    private void ends() {
        names("Of an ORDER: ENDS: NUMBERS at its end as a number, a as thousands, b as hundreds, c as tens, d as ones;");
        int[] parts = {1000, 100, 10, 1};
        for (int x = 0; x < 4; x++) {
            String end = "" + 7 * parts[x];
            run("steps[0w" + "abcd".charAt(x) + "7;] sort(0,0)=" + end + " ends(0)=" + end + " does(0)=0 run(3)=" + end);
            run("number(" + x + ",9)=0 told(7)=" + 9 * parts[x] + " sort(0,0)=" + 9 * parts[x]);
        }
        run("sort(0,0)=0 steps[0wa9;0wb9;0wc9;0wd9;] sort(0,0)=9999 ends(0)=9999 orders(3)=1");
        run("steps[0wa1;0wb2;0wc3;0wd4;] sort(0,0)=1234 does[000] run(3)=1230 does(0)=0 run(3)=1234");
        run("steps[0l0;0wa1;1l0;1wd1;] sort(0,0)=1000 sort(1,0)=1");
    }

    private void wrongOnes() {
        names("WRONG ones: CHECKS that were WRONG.");
        String all = "";
        for (int t = 0; t < 3; t++) {
            for (int i = 0; i < 4; i++) {
                all += t + "kd1;";
            }
        }
        run("steps[" + all + "] orders(0)=1 sort(0,1)=12 orders(2)=1 does[012012012] run(2)=9 does[012] run(2)=12"
            + " number(3,1)=0 sort(0,1)=0 orders(2)=0 drops(0)=3 step(0,3,3,2)=3 sort(0,1)=1 orders(2)=1");
        run("sort(0,1)=0 steps[0ka0;] sort(0,1)=0 step(1,3,0,9)=0 sort(0,1)=1 step(2,3,0,1)=0 sort(0,1)=2");
        run("steps[0l0;0ka1;1l0;1ka1;1ka2;] sort(0,1)=1 sort(1,1)=2 orders(2)=2");
        run("steps[0ka0;1wa1;] rows[]=01,10 sort(0,1)=0 sort(1,1)=1 orders(2)=1");
    }

    private void allHaveTheSame() {
        names("(All ORDERS of one SORT have the same.)");
        String[] steps = {"0wa1;0kb2;1wb2;1ka0;2l0;2l0;", "0aa7;0cba;1aa5;1kb7;2ka2;2wc3;", "0l0;0wa1;0f0;1l0;1ka1;2wd1;2ka0;",
            "0wa1;1ka1;2l1;2l1;", "0l0;0l1;1l1;1l0;2wa1;2ka1;", "0f1;1wb3;2kb3;2kb0;"};
        for (String told : steps) {
            everyOrder(told, "");
        }
    }

    /** Goes through every order that begins with a row, each on an object of its own. */
    private void everyOrder(String steps, String row) {
        StepOrders x = new StepOrders();
        doc.runOn(x, "steps[" + steps + "] does[" + row + "]");
        int able = x.run(0);
        for (int t = 0; t < 3; t++) {
            if ((able >> t & 1) != 0) {
                everyOrder(steps, row + t);
            }
        }
        String about = "steps[" + steps + "] does[" + row + "] ";
        int s = x.which();
        doc.is(about + "which() is NONE", s == -1 ? 1 : 0, able == 0 ? 0 : 1);
        if (able == 0) {
            doc.is(about + "ENDS of its sort", x.sort(s, 0), x.run(3));
            doc.is(about + "WRONG ones of its sort", x.sort(s, 1), x.run(2));
            doc.is(about + "STANDSTILL of its sort", x.sort(s, 2), x.run(1) < x.told(4) + x.told(5) + x.told(6) ? 1 : 0);
            doc.is(about + "how many steps", x.order(s, -1), x.run(1));
            doc.is(about + "is behind the first one", Calls.row(x, s).compareTo(row) <= 0 ? 1 : 0, 1);
        }
    }

    private void raceByNumber() {
        names("RACE of two STEPS of unlike THREADS that DEPEND on one another by a NUMBER:");
        String[] racing = {"wa1 wa1", "wa1 ka1", "ka1 aa1", "caa ka0", "cba wa1", "cba cab"};
        for (String both : racing) {
            run("steps[0" + both.split(" ")[0] + ";1" + both.split(" ")[1] + ";] race(0,0,1,0)=1 race(1,0,0,0)=1 races()=1");
        }
        String[] fine = {"wa1 wb1", "ka1 ka1", "ka1 cba", "cba cca", "l0 l0", "l0 f0", "l1 wb1", "wa0 l0", "wa0 f0"};
        for (String both : fine) {
            run("steps[0" + both.split(" ")[0] + ";1" + both.split(" ")[1] + ";] race(0,0,1,0)=0 race(1,0,0,0)=0 races()=0");
        }
        run("steps[0wa1;0wa2;1wa3;] race(0,0,0,1)=BAD race(0,0,1,0)=1 race(0,1,1,0)=1 races()=2");
    }

    private void bothNext() {
        names("there is a beginning of an ORDER behind which both can be done next.");
        run("steps[0wa1;0wb1;0wb1;0wa2;1wa1;1wc1;1wc1;1wa2;] race(0,0,1,0)=1 race(0,3,1,3)=1 race(0,0,1,3)=1 race(0,3,1,0)=1");
        run("steps[0wa1;0l0;0wa2;0f0;1l0;1wa3;1f0;1wa4;] race(0,0,1,1)=1 race(0,2,1,1)=0 race(1,1,0,2)=0 race(0,2,1,3)=1"
            + " race(0,0,1,3)=1 races()=3");
        run("steps[0l0;0f0;0wa2;1l0;1wa3;1f0;] race(0,2,1,1)=1 races()=1");
        run("steps[0l0;0wa2;0f0;1l1;1wa3;1f1;] race(0,1,1,1)=1 races()=1");
        run("steps[0l0;0l0;0wa1;1wa2;] race(0,2,1,0)=0 races()=0");
        run("steps[0l0;0wa1;0l0;1wa2;] race(0,1,1,0)=1 races()=1");
        run("steps[0f0;0wa1;1wa1;2l0;2f0;] race(0,1,1,0)=0 races()=0");
        run("steps[0l0;0wa1;1wa1;2l0;] race(0,1,1,0)=1 races()=1");
        run("steps[0l0;0wa1;1l0;1wb1;2l1;2ka1;2kb1;] race(0,1,2,1)=1 race(1,1,2,2)=1 race(2,2,1,1)=1 races()=2");
        run("steps[1l0;1wa1;2l0;2wa2;0wa3;] race(1,1,2,1)=0 race(0,0,1,1)=1 race(0,0,2,1)=1 races()=2");
    }
}
