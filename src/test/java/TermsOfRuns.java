/** The sentences of "Terms" about a run, THE TEXT, STATES and what is refused. */
final class TermsOfRuns {
    /** Three steps, the run behind two of them, and a text that can be read. */
    private static final String SOME = "number(1,3)=0 steps[0wa1;0ka1;1l0;] does[01] told[2wb3;] ";

    private final Sentences doc;

    TermsOfRuns(Sentences doc) {
        this.doc = doc;
    }

    private void names(String words) {
        doc.names("Terms", words);
    }

    private void run(String calls) {
        doc.run(calls);
    }

    void all() {
        beginsWithNone();
        beginsAgain();
        bytesAtMost();
        endedBySemicolon();
        threadOfText();
        kindsOfText();
        lettersAndFigures();
        comeBehind();
        blanks();
        firstByte();
        lockAboveOne();
        fifthStep();
        tooEarly();
        emptyOnes();
        nothingIsDone();
        leavesOne();
        alsoIfNothingChanges();
        faultLeavesNone();
        goBackTo();
        fiveAtMost();
        changingNothing();
        firstOf();
        byTheText();
    }

    private void beginsWithNone() {
        names("A RUN: an ORDER as it is done step by step; it begins with none");
        run("run(0)=0 run(1)=0 run(2)=0 run(3)=0 run(4)=NONE run(5)=NONE again()=0");
        run("steps[0ka1;0l1;] run(0)=1 run(1)=0 run(2)=0 run(3)=0 run(5)=NONE does(0)=1 run(1)=1 does(0)=1 run(1)=2 run(5)=0"
            + " does(0)=NO run(1)=2");
    }

    private void beginsAgain() {
        names("(and again, when a STEP comes or goes, or number() is called).");
        String[] again = {"step(2,0,0,1)=0", "step(0,3,0,1)=2", "drops(0)=1", "drops(1)=0", "number(0,1)=0", "number(1,3)=3", "reads()=1"};
        for (String call : again) {
            run(SOME + "run(1)=2 run(4)=1 " + call + " run(1)=0 run(2)=0 run(4)=NONE again()=0");
        }
        String[] goesOn = {"step(3,0,0,1)=BAD", "drops(2)=NO", "drops(3)=BAD", "number(4,1)=BAD", "number(0,10)=BAD", "text[]=-10",
            "text[0wa1;3]=-15", "type(49)=6", "clear()=5", "orders(0)=1", "sort(0,0)=1300", "races()=0", "which()=NONE", "does(1)=NO",
            "told(8)=5", "ends(0)=1300"};
        for (String call : goesOn) {
            run(SOME + call + " run(1)=2 run(3)=1300 run(4)=1 does(0)=0 which()=0");
        }
        run("steps[0wa1;0wa2;0wa3;0wa4;] does(0)=0 step(0,0,0,5)=FULL run(1)=1 text[0wa1;]=-10 run(1)=1");
        run("steps[0ka9;0ka9;] does[00] run(2)=2 number(0,9)=0 run(2)=0 run(3)=9000 does(0)=0 does(0)=0");
    }

    private void bytesAtMost() {
        names("THE TEXT (120 bytes at most)");
        StepOrders x = new StepOrders();
        for (int had = 0; had < 119; had++) {
            doc.is("type('0') behind " + had, x.type('0'), had + 1);
        }
        doc.runOn(x, "told(3)=119 type(48)=120 told(3)=120 type(48)=FULL type(0)=FULL told(3)=120 told(2)=2 clear()=120"
            + " told(3)=0 type(48)=1");
        String steps = "";
        for (int k = 0; k < 12; k++) {
            steps += "     " + k % 3 + "wa" + k % 10 + ";";
        }
        run("told[" + steps.substring(0, 119) + "] reads()=-129 type(59)=120 reads()=12 told(4)=4 told(5)=4 told(6)=4 of(2,3,2)=1"
            + " type(32)=FULL told(3)=120");
        run("told[" + steps.substring(0, 119) + "] type(60)=120 reads()=-129 told(3)=120");
        run("told[" + steps.substring(0, 119) + "] type(32)=120 reads()=-130 type(59)=FULL reads()=-130");
    }

    private void endedBySemicolon() {
        names("tells STEPS, each ended by ;");
        run("text[0wa1]=-14 text[0wa1;]=1 text[0wa1;;]=-15 text[0wa1:]=-14 text[0wa1<]=-14 text[;]=-10 text[0wa1,]=-14");
        run("text[0wa1;1wb2]=-19 text[0wa1;1wb2;]=2 text[0wa11wb2;]=-14 text[0;wa1;]=-11 text[0l0]=-13 text[0l0;]=1");
        eachByteBehind("0wa1", ";");
        eachByteBehind("0cab", ";");
        eachByteBehind("0l0", ";");
        eachByteBehind("0f1", ";");
    }

    /** Of all bytes that may come behind a beginning just those that are told can stand there. */
    private void eachByteBehind(String head, String fine) {
        for (int c = 0; c < 128; c++) {
            String text = head + (char) c;
            boolean stands = c == ' ' || fine.indexOf(c) >= 0;
            boolean whole = text.strip().endsWith(";");
            int due = !stands ? -10 - head.length() : whole ? 1 : -10 - text.length();
            StepOrders x = new StepOrders();
            for (int k = 0; k < text.length(); k++) {
                x.type(text.charAt(k));
            }
            doc.is("reads() of '" + head + "' and byte " + c, x.reads(), due);
        }
    }

    private void threadOfText() {
        names(": a THREAD (0 .. 2),");
        eachByteBehind("", "012");
        eachByteBehind("0wa1;", "012");
        run("text[/wa1;]=-10 text[0wa1;]=1 told(4)=1 text[2wa1;]=1 told(6)=1 text[3wa1;]=-10 text[1wa1;3wa1;]=-15 told(5)=0");
    }

    private void kindsOfText() {
        names("then w x v (WRITE), a x v (ADD), c x y (COPY), k x v (CHECK), l n (LOCK), f n (FREE):");
        eachByteBehind("0", "wacklf");
        run("text[0wb7;0ab7;0cbd;0kb7;1l1;1f1;]=6 of(0,0,0)=0 of(0,1,0)=1 of(0,2,0)=2 of(0,3,0)=3 of(1,0,0)=4 of(1,1,0)=5"
            + " of(0,0,1)=1 of(0,0,2)=7 of(0,1,1)=1 of(0,1,2)=7 of(0,2,1)=1 of(0,2,2)=3 of(0,3,1)=1 of(0,3,2)=7"
            + " of(1,0,1)=1 of(1,0,2)=0 of(1,1,1)=1 of(1,1,2)=0");
    }

    private void lettersAndFigures() {
        names("x, y letters a to d, v, n a figure;");
        for (String kind : new String[] {"w", "a", "c", "k"}) {
            eachByteBehind("0" + kind, "abcd");
            eachByteBehind("0" + kind + "a", kind.equals("c") ? "abcd" : "0123456789");
        }
        eachByteBehind("0l", "01");
        eachByteBehind("0f", "01");
        run("text[0wa0;0wb9;0wc0;0wd9;]=4 of(0,0,1)=0 of(0,0,2)=0 of(0,1,1)=1 of(0,1,2)=9 of(0,2,1)=2 of(0,3,1)=3 of(0,3,2)=9");
        run("text[0caa;0cbd;1l0;1f1;]=4 of(0,0,1)=0 of(0,0,2)=0 of(0,1,1)=1 of(0,1,2)=3 of(1,0,1)=0 of(1,1,1)=1");
    }

    private void comeBehind() {
        names("they come behind those that there are.");
        run("steps[0wa1;1wa2;] text[0wb3;2wb4;0wb5;]=3 of(0,0,2)=1 of(0,1,2)=3 of(0,2,2)=5 of(0,3,2)=BAD of(1,0,2)=2"
            + " of(1,1,2)=BAD of(2,0,2)=4 of(2,1,2)=BAD");
        run("text[1wa1;]=1 reads()=1 reads()=1 reads()=1 reads()=-10 told(5)=4");
    }

    private void blanks() {
        names("Blanks (32) may stand anywhere.");
        run("text[0wa1;]=1 text[ 0wa1;]=1 text[0 wa1;]=1 text[0w a1;]=1 text[1wa 1;]=1 text[1wa1 ;]=1 text[1wa1; ]=1"
            + " text[   2   w   a   1   ;   ]=1 text[2 l 1 ; 2 f 0 ;]=2 told(4)=4 told(5)=3 told(6)=3");
        for (int c : new int[] {0, 9, 10, 13, 31, 33, 127}) {
            String text = "0wa1;";
            for (int at = 0; at <= text.length(); at++) {
                StepOrders x = new StepOrders();
                for (int k = 0; k < text.length() + 1; k++) {
                    x.type(k < at ? text.charAt(k) : k == at ? c : text.charAt(k - 1));
                }
                doc.is("reads() of '" + text + "' with byte " + c + " at " + at, x.reads(), -10 - at);
            }
        }
    }

    private void firstByte() {
        names("FAULT: the place of the first byte that can not stand there");
        run("text[x]=-10 text[0x]=-11 text[0wx]=-12 text[0wax]=-13 text[0wa1x]=-14 text[0wa1;x]=-15 text[0wa1;0x]=-16");
        run("text[xxx]=-10 text[  x]=-12 text[0wa1; x x]=-16 text[0we;;]=-12 text[0WA1;]=-11 text[0wA1;]=-12 text[w0a1;]=-10");
        run("text[0waa;]=-13 text[0ca1;]=-13 text[0w1a;]=-12 text[0l0a;]=-13 text[0la;]=-12 text[-1wa1;]=-10 text[0wa-1;]=-13"
            + " text[0wa10;]=-14 told(0)=0 told(4)=0 told(8)=0");
    }

    private void lockAboveOne() {
        names("(a LOCK above 1, too;");
        run("text[0l0;]=1 text[0l1;]=1 text[0l2;]=-12 text[0l9;]=-12 text[1f0;]=1 text[1f1;]=1 text[1f2;]=-12 text[1f9;]=-12"
            + " text[ 0 l 2]=-15 text[2wa2;2l3;]=-17 told(4)=2 told(5)=2 told(6)=0 told(0)=0");
    }

    private void fifthStep() {
        names("a 5th STEP of a THREAD: that of its THREAD);");
        for (int t = 0; t < 3; t++) {
            String one = t + "wa1;";
            int told = 4 + t;
            run("text[" + one + one + one + one + "]=4 told(" + told + ")=4 text[" + one + "]=-10 told(" + told + ")=4");
            run("text[" + one + one + one + one + one + "]=-30 told(" + told + ")=0 told(8)=0");
            run("steps[" + one + one + one + "] text[" + one + "]=1 told(" + told + ")=4");
            run("steps[" + one + one + one + "] text[ " + one + " " + one + "]=-17 told(" + told + ")=3");
            run("steps[" + one + one + one + one + "] text[" + (t + 1) % 3 + "l0;" + one + "]=-14 text[" + (t + 1) % 3 + "l0;]=1");
        }
        run("steps[0wa1;0wa1;0wa1;0wa1;] text[0]=-10 text[0x]=-10 text[ 0]=-11 text[1x0]=-11 text[1wa1;0wa1;x]=-15 told(5)=0");
        run("text[0wa1;0wa1;0wa1;0wa1;1wa1;1wa1;1wa1;1wa1;2wa1;2wa1;2wa1;2wa1;]=12 reads()=-10 told(2)=0");
        run("text[0wa1;1wa1;0wa1;1wa1;0wa1;1wa1;0wa1;1wa1;2wa1;1wa1;0wa1;]=-55 told(4)=0");
        run("steps[0wa1;0wa1;0wa1;0wa1;] text[0wa1;]=-10 drops(0)=3 reads()=1 reads()=-10 back()=4 told(4)=3 reads()=1");
    }

    private void tooEarly() {
        names("the TEXT's length, if it ends too early");
        run("text[0]=-11 text[0w]=-12 text[0wa]=-13 text[0wa1]=-14 text[0wa1;]=1 text[0wa1;0]=-16 text[0l]=-12 text[0l1]=-13 text[0l1;]=1");
        run("text[0wa1  ]=-16 text[0 ]=-12 text[0wa1; 0 ]=-18 text[0wa1;  ]=1 text[0c]=-12 text[0ca]=-13 text[0cab]=-14 told(4)=1");
    }

    private void emptyOnes() {
        names("(an empty one, one of blanks alone, too).");
        run("reads()=-10 type(32)=1 reads()=-11 type(32)=2 reads()=-12 clear()=2 reads()=-10 told(8)=0 told(0)=0");
        run("told[" + " ".repeat(119) + "] reads()=-129 type(32)=120 reads()=-130");
        run("text[0wa1;]=1 clear()=5 reads()=-10 told(4)=1");
    }

    private void nothingIsDone() {
        names("If there is one, nothing is done.");
        String[] texts = {"2wb3;2wb3", "2wb3;2wb3;3", "2wb3;1wb3;1wb3;1wb3;1", "2wb3;0l2;", "", "  "};
        for (String text : texts) {
            run(SOME + "told(8)=5 text[" + text + "]=" + (-10 - faultOf(text)) + " told(4)=2 told(5)=1 told(6)=0 told(3)=" + text.length()
                + " told(7)=300 told(8)=5 run(1)=2 run(3)=1300 told(0)=0 told(1)=0 told(2)=0 back()=4 run(1)=1");
        }
    }

    private static int faultOf(String text) {
        int fault = text.indexOf("3;3");
        return text.equals("2wb3;0l2;") ? 7 : fault >= 0 ? fault + 2 : text.endsWith(";1") ? text.length() - 1 : text.length();
    }

    private void leavesOne() {
        names("STATES: each call told S, if it is not refused, leaves one,");
        run("told(8)=0 step(0,4,0,0)=0 told(8)=1 number(0,1)=0 told(8)=2 does(0)=0 told(8)=3 again()=1 told(8)=4 drops(0)=0 told(8)=5");
        run("told[0wa1;1wa1;] reads()=2 told(8)=1 reads()=2 told(8)=2");
        run("step(0,9,0,0)=BAD step(3,0,0,0)=BAD number(4,0)=BAD number(0,10)=BAD does(0)=NO does(3)=BAD drops(0)=NO drops(3)=BAD"
            + " told(8)=0 back()=NO");
        run("steps[0wa1;0wa1;0wa1;0wa1;] step(0,0,0,0)=FULL told(8)=4");
        run("of(0,0,0)=BAD depend(0,0,1,0)=BAD orders(0)=1 order(0,0)=-5 sort(0,0)=0 ends(0)=0 race(0,0,1,0)=BAD races()=0 run(0)=0"
            + " which()=0 type(48)=1 clear()=1 told(8)=0");
    }

    private void alsoIfNothingChanges() {
        names("also if nothing changes by it");
        run("number(0,0)=0 told(8)=1 again()=0 told(8)=2 number(3,0)=0 told(8)=3 back()=2 back()=1 back()=0 back()=NO");
        run("number(2,5)=0 told(8)=1 number(2,5)=5 told(8)=2 back()=1 told(7)=50 back()=0 told(7)=0");
    }

    private void faultLeavesNone() {
        names("(reads() with a FAULT none),");
        run("reads()=-10 told(8)=0 text[0wa1;3]=-15 told(8)=0 back()=NO text[0wa1;]=1 told(8)=1 back()=0 told(4)=0");
    }

    private void goBackTo() {
        names("to go back to (STEPS, NUMBERS, the RUN),");
        run("steps[0wa1;1l0;1ka9;] told(8)=3 does(1)=0 does(1)=1 run(1)=2 step(2,0,1,1)=0 run(1)=0 back()=4 told(6)=0 run(1)=2 run(2)=1"
            + " run(4)=1 run(0)=1 does(0)=1 which()=1 back()=4 run(1)=2 back()=3 run(1)=1 run(2)=0 run(4)=1 back()=2 run(1)=0 run(4)=NONE");
        run("steps[0wa1;] drops(0)=0 orders(3)=1 ends(0)=0 back()=1 told(4)=1 of(0,0,2)=1 ends(0)=1000 back()=0 told(4)=0 ends(0)=0");
        run("number(0,4)=0 number(0,7)=4 does(0)=NO back()=1 told(7)=4000 run(3)=4000 back()=0 told(7)=0 run(3)=0");
        run("steps[0wa1;0wb1;] does[00] number(0,5)=0 run(1)=0 back()=4 run(1)=2 run(3)=1100 told(7)=0 which()=0");
        run("steps[0wa1;0wb1;] does[00] again()=2 back()=4 run(1)=2 run(3)=1100 drops(0)=1 back()=4 run(1)=2 told(4)=2 of(0,1,1)=1");
        run("steps[0wa1;] does(0)=0 text[1wa2;2wa3;]=2 run(1)=0 back()=2 run(1)=1 told(5)=0 told(6)=0 told(3)=10 reads()=2");
        run("steps[0wa1;] type(48)=1 step(9,0,0,0)=BAD drops(1)=NO back()=0 told(3)=1 told(0)=1 told(1)=1");
    }

    private void fiveAtMost() {
        names("5 at most, older ones lost.");
        for (int calls = 1; calls <= 23; calls++) {
            StepOrders x = new StepOrders();
            for (int k = 1; k <= calls; k++) {
                doc.is("number(0, " + k % 10 + ") as call " + k, x.number(0, k % 10), (k - 1) % 10);
                doc.is("told(8) behind " + k + " calls", x.told(8), Math.min(5, k));
            }
            int left = Math.min(5, calls);
            for (int k = 1; k <= left; k++) {
                doc.is("back() " + k + " behind " + calls + " calls", x.back(), left - k);
                doc.is("told(7) behind it", x.told(7), 1000 * ((calls - k) % 10));
                doc.is("told(8) behind it", x.told(8), left - k);
            }
            doc.is("back() too often behind " + calls + " calls", x.back(), -3);
            doc.is("told(7) behind that", x.told(7), 1000 * ((calls - left) % 10));
        }
        run("again()=0 again()=0 again()=0 again()=0 again()=0 told(8)=5 again()=0 told(8)=5 back()=4 again()=0 told(8)=5 back()=4"
            + " back()=3 again()=0 told(8)=4 again()=0 told(8)=5 again()=0 told(8)=5");
    }

    private void changingNothing() {
        names("Refused (a question, too), changing nothing but how often,");
        String[] refused = {"step(3,0,0,0)=BAD", "step(1,6,0,0)=BAD", "step(1,0,4,0)=BAD", "step(1,0,0,10)=BAD", "step(0,0,0,0)=FULL",
            "drops(3)=BAD", "drops(2)=NO", "number(4,0)=BAD", "number(0,10)=BAD", "of(0,4,0)=BAD", "of(0,0,5)=BAD", "depend(0,0,0,0)=BAD",
            "depend(0,0,2,0)=BAD", "orders(4)=BAD", "orders(-1)=BAD", "order(-1,0)=BAD", "order(0,-2)=BAD", "order(99,0)=NO",
            "sort(-1,0)=BAD", "sort(0,3)=BAD", "sort(99,0)=NO", "ends(-1)=BAD", "race(0,0,0,1)=BAD", "race(0,0,2,0)=BAD", "does(3)=BAD",
            "does(2)=NO", "run(6)=BAD", "run(-1)=BAD", "type(128)=BAD", "type(-1)=BAD", "type(48)=FULL", "told(9)=BAD", "told(-1)=BAD"};
        for (String call : refused) {
            StepOrders x = new StepOrders();
            doc.runOn(x, "number(1,3)=0 steps[0wa1;0ka1;0wb2;0kb9;1l0;1wb3;] does[0100] told[" + "2wb3;" + " ".repeat(115) + "]");
            String before = allOf(x);
            doc.runOn(x, call + " told(0)=B told(1)=N told(2)=F".replace("B", call.endsWith("BAD") ? "1" : "0")
                .replace("N", call.endsWith("NO") ? "1" : "0").replace("F", call.endsWith("FULL") ? "1" : "0"));
            doc.same("all answers behind " + call, allOf(x), before);
            doc.runOn(x, call + " reads()=1 told(6)=1 told(8)=5 back()=4 run(1)=4 back()=3 run(1)=3");
        }
        StepOrders y = new StepOrders();
        doc.runOn(y, "told(1)=0 back()=NO told(1)=1 told(8)=0 back()=NO told(1)=2 told(4)=0 run(1)=0");
        doc.runOn(y, "order(0,0)=-5 ends(1)=-5 order(0,NONE)=0 run(4)=NONE reads()=-10 told(0)=0 told(1)=2 told(2)=0");
        doc.runOn(y, "steps[0wa1;] which()=NONE told(0)=0 told(1)=2 told(2)=0");
    }

    /** All that can be asked of an object, but for how often it refused. */
    private static String allOf(StepOrders x) {
        StringBuilder all = new StringBuilder();
        for (int what = 3; what < 9; what++) {
            all.append(x.told(what)).append(' ');
        }
        for (int t = 0; t < 3; t++) {
            for (int i = 0; i < x.told(4 + t); i++) {
                all.append(x.of(t, i, 0)).append(x.of(t, i, 1)).append(x.of(t, i, 2)).append(' ');
            }
        }
        for (int what = 0; what < 4; what++) {
            all.append(x.orders(what)).append(' ');
        }
        for (int what = 0; what < 6; what++) {
            all.append(x.run(what)).append(' ');
        }
        all.append(x.which()).append(' ').append(x.races());
        for (int s = 0; s < x.orders(0); s++) {
            all.append(' ').append(Calls.row(x, s)).append(' ').append(x.sort(s, 0)).append(' ').append(x.ends(s));
        }
        return all.toString();
    }

    private void firstOf() {
        names("the first of: BAD -2 a number is not as told; NO -3 as told; FULL -4 as told.");
        run("step(3,0,0,0)=-2 drops(0)=-3 does(0)=-3 steps[0wa1;0wa1;0wa1;0wa1;] step(0,0,0,0)=-4 told(0)=1 told(1)=2 told(2)=1");
        run("drops(3)=BAD does(3)=BAD order(9,-2)=BAD order(9,NONE)=NO order(-1,-2)=BAD sort(9,3)=BAD sort(9,-1)=BAD sort(9,2)=NO"
            + " sort(-1,3)=BAD told(0)=7 told(1)=2");
        run("steps[0wa1;0wa1;0wa1;0wa1;] step(0,6,0,0)=BAD step(0,0,4,0)=BAD step(0,0,0,10)=BAD step(0,2,0,4)=BAD step(0,4,2,0)=BAD"
            + " step(0,4,0,1)=BAD step(0,4,0,0)=FULL told(0)=6 told(2)=1");
        run("told[" + "0".repeat(120) + "] type(128)=BAD type(-1)=BAD type(127)=FULL type(0)=FULL told(0)=2 told(2)=2");
    }

    private void byTheText() {
        names("By what THE TEXT tells, by a FAULT of it nothing counts.");
        run("text[3wa1;]=-10 text[0xa1;]=-11 text[0we1;]=-12 text[0l2;]=-12 text[0ca9;]=-13 text[]=-10 text[0wa1;0wa1;0wa1;0wa1;0wa1;]=-30"
            + " told(0)=0 told(1)=0 told(2)=0 text[0f0;0f0;0f0;0f0;]=4 reads()=-10 told(0)=0 told(1)=0 told(2)=0 step(0,0,0,0)=FULL told(2)=1");
    }
}
