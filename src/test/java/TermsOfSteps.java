/** The sentences of "Terms" about threads, numbers, locks and steps. */
final class TermsOfSteps {
    private final Sentences doc;

    TermsOfSteps(Sentences doc) {
        this.doc = doc;
    }

    private void names(String words) {
        doc.names("Terms", words);
    }

    private void run(String calls) {
        doc.run(calls);
    }

    void all() {
        threads();
        steps();
        asTheyCome();
        numbers();
        figures();
        locks();
        sorts();
        write();
        add();
        copy();
        check();
        lock();
        free();
        others();
        reads();
        writes();
    }

    private void threads() {
        names("THREADS 0 .. 2,");
        run("step(-1,0,0,0)=BAD step(0,0,0,0)=0 step(1,0,0,0)=0 step(2,0,0,0)=0 step(3,0,0,0)=BAD"
            + " step(LEAST,0,0,0)=BAD step(MOST,0,0,0)=BAD told(4)=1 told(5)=1 told(6)=1 told(0)=4");
        run("steps[0wa1;1wa1;2wa1;] drops(-1)=BAD drops(3)=BAD drops(LEAST)=BAD drops(MOST)=BAD"
            + " drops(0)=0 drops(2)=0 told(4)=0 told(5)=1 told(6)=0 told(0)=4");
        run("steps[0wa1;1wa1;2wa1;] does(-1)=BAD does(3)=BAD does(LEAST)=BAD does(MOST)=BAD"
            + " does(0)=0 does(2)=0 run(0)=2 does(1)=0 run(1)=3 told(0)=4");
        run("steps[0wa1;2ab2;] of(-1,0,0)=BAD of(0,0,0)=0 of(2,0,0)=1 of(3,0,0)=BAD"
            + " of(LEAST,0,0)=BAD of(MOST,0,0)=BAD told(0)=4");
        for (String two : new String[] {"depend", "race"}) {
            run("steps[0wa1;1ka1;2aa2;] @(-1,0,1,0)=BAD @(0,0,1,0)=1 @(2,0,1,0)=1 @(3,0,1,0)=BAD".replace("@", two));
            run("steps[0wa1;1ka1;2aa2;] @(1,0,-1,0)=BAD @(1,0,0,0)=1 @(1,0,2,0)=1 @(1,0,3,0)=BAD".replace("@", two));
            run("steps[0wa1;2aa2;] @(LEAST,0,2,0)=BAD @(0,0,MOST,0)=BAD told(0)=2".replace("@", two));
        }
        run("text[/wa1;]=-10 text[0wa1;]=1 text[1wa1;]=1 text[2wa1;]=1 text[3wa1;]=-10"
            + " told(4)=1 told(5)=1 told(6)=1");
    }

    private void steps() {
        names("each with STEPS 0 .. 3,");
        for (int t = 0; t < 3; t++) {
            run("step(@,0,0,0)=0 step(@,0,0,1)=1 step(@,0,0,2)=2 step(@,0,0,3)=3 step(@,0,0,4)=FULL told(2)=1"
                .replace("@", "" + t) + " told(" + (4 + t) + ")=4");
            run("steps[@wa5;@wa6;@wa7;] of(@,-1,2)=BAD of(@,0,2)=5 of(@,2,2)=7 of(@,3,2)=BAD step(@,0,0,8)=3"
                .replace("@", "" + t) + " of(@,3,2)=8 of(@,4,2)=BAD of(@,LEAST,2)=BAD of(@,MOST,2)=BAD".replace("@", "" + t));
        }
        for (String two : new String[] {"depend", "race"}) {
            run("steps[1wa0;1wa1;1wa2;2wa0;] @(1,-1,2,0)=BAD @(1,0,2,0)=1 @(1,2,2,0)=1 @(1,3,2,0)=BAD".replace("@", two)
                + " step(1,0,0,3)=3 @(1,3,2,0)=1 @(1,4,2,0)=BAD @(1,MOST,2,0)=BAD".replace("@", two));
            run("steps[1wa0;1wa1;1wa2;2wa0;] @(2,0,1,-1)=BAD @(2,0,1,0)=1 @(2,0,1,2)=1 @(2,0,1,3)=BAD".replace("@", two)
                + " step(1,0,0,3)=3 @(2,0,1,3)=1 @(2,0,1,4)=BAD @(2,0,1,LEAST)=BAD".replace("@", two));
        }
        run("steps[0wa1;0wa1;0wa1;0wa1;1wa1;1wa1;1wa1;1wa1;2wa1;2wa1;2wa1;] step(2,0,0,1)=3 step(0,0,0,1)=FULL"
            + " step(1,0,0,1)=FULL step(2,0,0,1)=FULL told(4)=4 told(5)=4 told(6)=4 drops(1)=3 step(1,0,0,1)=3"
            + " step(1,0,0,1)=FULL told(2)=4");
        run("steps[0wa1;0wa1;0wa1;] text[0wa1;]=1 text[0wa1;]=-10 told(4)=4");
    }

    private void asTheyCome() {
        names("as they come, done in that order.");
        run("steps[0wa1;0aa1;0ka2;0wa7;] of(0,0,2)=1 of(0,1,0)=1 of(0,2,0)=3 of(0,3,2)=7"
            + " does(0)=0 run(3)=1000 does(0)=0 run(3)=2000 does(0)=0 run(3)=2000 does(0)=0 run(3)=7000 does(0)=NO");
        run("steps[1wb1;2wb2;1wb3;2wb4;] does[1212] run(3)=400 of(1,1,2)=3 of(2,0,2)=2");
    }

    private void numbers() {
        names("NUMBERS a to d (0 .. 3),");
        run("number(-1,1)=BAD number(0,1)=0 number(1,2)=0 number(2,3)=0 number(3,4)=0 number(4,1)=BAD"
            + " number(LEAST,1)=BAD number(MOST,1)=BAD told(7)=1234 told(0)=4");
        for (int sort = 0; sort < 4; sort++) {
            run("step(0,#,-1,0)=BAD step(0,#,0,0)=0 step(0,#,3,0)=1 step(0,#,4,0)=BAD step(0,#,LEAST,0)=BAD"
                .replace("#", "" + sort) + " step(0,2,MOST,0)=BAD of(0,0,1)=0 of(0,1,1)=3 told(0)=4");
        }
        run("step(0,2,0,-1)=BAD step(0,2,0,0)=0 step(0,2,0,3)=1 step(0,2,0,4)=BAD told(0)=2");
        run("text[0w`1;]=-12 text[0wa1;]=1 text[0wd1;]=1 text[0we1;]=-12 of(0,0,1)=0 of(0,1,1)=3");
    }

    private void figures() {
        names("0 .. 9 each, as they begin (0 at first);");
        run("told(7)=0 run(3)=0 sort(0,0)=0 ends(0)=0 ends(1)=-5");
        run("number(0,-1)=BAD number(0,0)=0 told(7)=0 number(0,9)=0 told(7)=9000 number(0,10)=BAD"
            + " number(0,LEAST)=BAD number(0,MOST)=BAD told(7)=9000 told(0)=4");
        run("number(0,9)=0 number(1,9)=0 number(2,9)=0 number(3,9)=0 told(7)=9999 run(3)=9999 sort(0,0)=9999"
            + " ends(0)=9999 ends(1)=-5 number(3,0)=9 told(7)=9990 run(3)=9990 sort(0,0)=9990 ends(0)=9990");
        run("number(2,6)=0 steps[0ac3;] does(0)=0 run(3)=90 told(7)=60 again()=1 run(3)=60");
    }

    private void locks() {
        names("LOCKS 0, 1, free as they begin.");
        run("run(4)=NONE run(5)=NONE steps[0l0;0l1;] run(4)=NONE run(5)=NONE does(0)=0 run(4)=0 run(5)=NONE"
            + " does(0)=0 run(4)=0 run(5)=0 again()=2 run(4)=NONE run(5)=NONE run(0)=1 does(0)=0");
        for (int sort = 4; sort < 6; sort++) {
            run("step(0,#,-1,0)=BAD step(0,#,0,0)=0 step(0,#,1,0)=1 step(0,#,2,0)=BAD step(0,#,3,0)=BAD"
                .replace("#", "" + sort) + " step(0,4,LEAST,0)=BAD step(0,5,MOST,0)=BAD of(0,0,1)=0 of(0,1,1)=1 told(0)=5");
        }
        run("text[0l/;]=-12 text[0l0;]=1 text[0l1;]=1 text[0l2;]=-12 text[1f0;]=1 text[1f1;]=1 text[1f2;]=-12");
    }

    private void sorts() {
        names("STEPS of SORTS (x a NUMBER, v 0 .. 9):");
        run("step(0,-1,0,0)=BAD step(0,0,0,0)=0 step(0,5,0,0)=1 step(0,6,0,0)=BAD step(0,LEAST,0,0)=BAD"
            + " step(0,MOST,0,0)=BAD of(0,0,0)=0 of(0,1,0)=5 told(4)=2 told(0)=4");
        run("step(0,0,0,0)=0 step(0,1,0,0)=1 step(0,2,0,0)=2 step(0,3,0,0)=3 step(1,4,0,0)=0 step(1,5,0,0)=1"
            + " of(0,0,0)=0 of(0,1,0)=1 of(0,2,0)=2 of(0,3,0)=3 of(1,0,0)=4 of(1,1,0)=5");
        for (int sort : new int[] {0, 1, 3}) {
            run("step(0,#,1,-1)=BAD step(0,#,1,0)=0 step(0,#,2,9)=1 step(0,#,1,10)=BAD step(0,#,1,LEAST)=BAD"
                .replace("#", "" + sort) + " step(0,0,1,MOST)=BAD of(0,0,1)=1 of(0,0,2)=0 of(0,1,1)=2 of(0,1,2)=9 told(4)=2");
        }
    }

    private void write() {
        names("0 WRITE x v: x becomes v;");
        run("number(0,5)=0 steps[0wa0;0wa9;0wd1;0wa9;] does(0)=0 run(3)=0 does(0)=0 run(3)=9000 does(0)=0 run(3)=9001"
            + " does(0)=0 run(3)=9001 sort(0,0)=9001");
    }

    private void add() {
        names("1 ADD x v: x becomes x and v, by 10 left over;");
        for (int had = 0; had < 10; had++) {
            for (int v = 0; v < 10; v++) {
                int sum = had + v < 10 ? had + v : had + v - 10;
                run("number(1," + had + ")=0 step(2,1,1," + v + ")=0 does(2)=0 run(3)=" + 100 * sum
                    + " sort(0,0)=" + 100 * sum + " told(7)=" + 100 * had);
            }
        }
        run("number(0,9)=0 steps[0aa1;0aa9;0aa1;0aa9;] does(0)=0 run(3)=0 does(0)=0 run(3)=9000 does(0)=0 run(3)=0"
            + " does(0)=0 run(3)=9000");
    }

    private void copy() {
        names("2 COPY x v: x becomes NUMBER v (0 .. 3);");
        run("step(0,2,1,-1)=BAD step(0,2,1,0)=0 step(0,2,1,3)=1 step(0,2,1,4)=BAD step(0,2,1,9)=BAD step(0,2,-1,1)=BAD"
            + " step(0,2,0,1)=2 step(0,2,3,1)=3 step(1,2,4,1)=BAD told(0)=5");
        for (int x = 0; x < 4; x++) {
            for (int v = 0; v < 4; v++) {
                int[] n = {1, 2, 3, 4};
                n[x] = n[v];
                run("number(0,1)=0 number(1,2)=0 number(2,3)=0 number(3,4)=0 step(1,2," + x + "," + v + ")=0 does(1)=0"
                    + " run(3)=" + (1000 * n[0] + 100 * n[1] + 10 * n[2] + n[3]));
            }
        }
        run("number(3,7)=0 steps[0wd3;0cad;0wd4;] does[000] run(3)=3004");
        run("text[0ca`;]=-13 text[0caa;]=1 text[0cad;]=1 text[0cae;]=-13 of(0,0,2)=0 of(0,1,2)=3");
    }

    private void check() {
        names("3 CHECK x v: it is WRONG, if x is not v;");
        for (int had = 0; had < 10; had++) {
            for (int v = 0; v < 10; v++) {
                int wrong = had == v ? 0 : 1;
                run("number(2," + had + ")=0 step(1,3,2," + v + ")=0 does(1)=" + wrong + " run(2)=" + wrong
                    + " run(3)=" + 10 * had + " sort(0,1)=" + wrong + " orders(2)=" + wrong);
            }
        }
        run("number(0,5)=0 steps[0ka5;0wb5;0kb5;0ka0;] does(0)=0 does(0)=0 does(0)=0 does(0)=1");
    }

    private void lock() {
        names("4 LOCK x (0, 1; v 0): can be done, if it is free; it is held by that THREAD then;");
        run("step(0,4,-1,0)=BAD step(0,4,0,0)=0 step(0,4,1,0)=1 step(0,4,2,0)=BAD step(0,4,0,-1)=BAD step(0,4,0,1)=BAD"
            + " step(0,4,1,1)=BAD step(0,4,1,-1)=BAD told(0)=6 told(4)=2");
        for (int lock = 0; lock < 2; lock++) {
            String held = " run(" + (4 + lock) + ")=";
            String other = " run(" + (5 - lock) + ")=NONE";
            for (int t = 0; t < 3; t++) {
                int u = (t + 1) % 3;
                run(("steps[@l#;@f#;&l#;] run(0)=" + ((1 << t) + (1 << u)) + " does(@)=0" + held + "@" + other
                    + " does(&)=NO run(0)=" + (1 << t) + " does(@)=0" + held + "NONE" + " run(0)=" + (1 << u)
                    + " does(&)=0" + held + "&" + other).replace("@", "" + t).replace("&", "" + u).replace("#", "" + lock));
            }
            run("steps[0l#;0l#;0f#;] does(0)=0 does(0)=NO run(0)=0 run(1)=1".replace("#", "" + lock) + held + "0");
        }
        run("steps[0l0;1l1;] does(0)=0 does(1)=0 run(4)=0 run(5)=1");
    }

    private void free() {
        names("5 FREE x (0, 1; v 0): can be done, if that THREAD holds it; it is free then.");
        run("step(0,5,-1,0)=BAD step(0,5,0,0)=0 step(0,5,1,0)=1 step(0,5,2,0)=BAD step(0,5,0,-1)=BAD step(0,5,0,1)=BAD"
            + " step(0,5,1,1)=BAD step(0,5,1,-1)=BAD told(0)=6 told(4)=2");
        for (int lock = 0; lock < 2; lock++) {
            String held = " run(" + (4 + lock) + ")=";
            for (int t = 0; t < 3; t++) {
                int u = (t + 1) % 3;
                run(("steps[@f#;] run(0)=0 does(@)=NO" + held + "NONE").replace("@", "" + t).replace("#", "" + lock));
                run(("steps[@l#;@f#;@f#;&f#;] does(&)=NO does(@)=0 does(&)=NO" + held + "@ does(@)=0" + held
                    + "NONE does(@)=NO does(&)=NO told(1)=4").replace("@", "" + t).replace("&", "" + u).replace("#", "" + lock));
            }
            run(("steps[0l#;0f~;] does(0)=0 does(0)=NO" + held + "0").replace("#", "" + lock).replace("~", "" + (1 - lock)));
            run(("steps[0l#;0f#;0l#;0f#;] does[000]" + held + "0 does(0)=0" + held + "NONE").replace("#", "" + lock));
        }
    }

    private void others() {
        names("All others can always be done.");
        run("steps[0l0;0l1;0wa1;0aa1;1wa1;1aa1;1cba;1kb9;2l0;] does[00] run(0)=3 does(1)=0 does(0)=0 does(1)=0 does(0)=0"
            + " does(1)=0 run(0)=2 does(1)=1 run(0)=0 run(1)=8");
        run("steps[0wa0;1ka9;2caa;] run(0)=7 does(1)=1 run(0)=5 does(2)=1 run(0)=1 does(0)=1 run(0)=0");
    }

    private void reads() {
        names("READS of a STEP: 1 x; 2 NUMBER v; 3 x.");
        run("steps[0wb2;0ab2;0cbd;0kb2;1l1;1f1;] of(0,0,3)=0 of(0,1,3)=2 of(0,2,3)=8 of(0,3,3)=2 of(1,0,3)=0 of(1,1,3)=0");
        run("steps[0aa3;0ab3;0ac3;0ad3;1cba;1cab;1cac;1cad;2ka3;2kb3;2kc3;2kd3;]"
            + " of(0,0,3)=1 of(0,1,3)=2 of(0,2,3)=4 of(0,3,3)=8 of(1,0,3)=1 of(1,1,3)=2 of(1,2,3)=4 of(1,3,3)=8"
            + " of(2,0,3)=1 of(2,1,3)=2 of(2,2,3)=4 of(2,3,3)=8");
    }

    private void writes() {
        names("WRITES: 0, 1, 2 x.");
        run("steps[0wb2;0ab2;0cbd;0kb2;1l1;1f1;] of(0,0,4)=2 of(0,1,4)=2 of(0,2,4)=2 of(0,3,4)=0 of(1,0,4)=0 of(1,1,4)=0");
        run("steps[0wa3;0wb3;0wc3;0wd3;1aa0;1ab0;1ac0;1ad0;2cab;2cba;2ccb;2cdb;]"
            + " of(0,0,4)=1 of(0,1,4)=2 of(0,2,4)=4 of(0,3,4)=8 of(1,0,4)=1 of(1,1,4)=2 of(1,2,4)=4 of(1,3,4)=8"
            + " of(2,0,4)=1 of(2,1,4)=2 of(2,2,4)=4 of(2,3,4)=8");
    }
}
