/** Term II and promises 6 to 10: what STEPS do, the plain machine. */
final class EdgePlain {
    private static final String HEAD = "core cells 24 window 12 saves 1 share 1 late";

    // As told: STEPS 0, 1 (as guessed), 3 (a MISS), a TRAP at 5; by the other number: 0, 1 (a MISS), 2, 3 (a MISS), 5, 6, the end.
    private static final String UNSURE = HEAD + ";set 1 0;skip 1 0 3 yes;set 4 4;skip 0 0 5 no;set 4 4;div 2 2 1;set 3 3;unsure 0"
                    + " 5";

    private EdgePlain() {
    }

    static void all() {
        sets();
        sumsAndDifferences();
        quotients();
        moves();
        skips();
        plainMachine();
        plainSteps();
        plainEnd();
        plainAt();
        plainStep();
        plainMisses();
    }

    /** A text whose PLAIN machine does ahead + 3 times - 1 STEPS, up to the STEPS told behind (ahead: 2 or more). */
    static String loop(int ahead, int times, String behind) {
        String sets = ";set 1 " + times + ";set 2 1" + EdgeText.times(ahead - 2, ";set 3 9");
        return HEAD + sets + ";sub 1 1 2;skip 1 0 " + (ahead + 3) + " no;skip 0 0 " + ahead + " yes" + behind;
    }

    private static void sets() {
        Edge.of("II", "STEPS: set: the register becomes the number.").core(HEAD + ";set 0 9999;set 7 1;set 7 0")
                .calls("plainAt(0,0)=0 plainAt(0,1)=9999 plainAt(7,2)=1 plainAt(7,3)=0 plainAt(6,3)=0")
                .calls("fetch=0 fetch=1 fetch=2 run(0)=0 run(1)=0 run(2)=0 commit=0 value(0)=9999 commit=1 value(7)=1 commit=2"
                        + " value(7)=0");
    }

    private static void sumsAndDifferences() {
        String sentence = "add, sub, div: the first becomes the second's and the third's sum, difference (both mod 10,000, 0 .."
                        + " 9,999),";
        sum(sentence, "add", 4999, 5000, 9999);
        sum(sentence, "add", 5000, 5000, 0);
        sum(sentence, "add", 5000, 5001, 1);
        sum(sentence, "add", 9999, 1, 0);
        sum(sentence, "add", 9999, 9999, 9998);
        sum(sentence, "add", 0, 0, 0);
        sum(sentence, "sub", 5, 5, 0);
        sum(sentence, "sub", 0, 1, 9999);
        sum(sentence, "sub", 0, 9999, 1);
        sum(sentence, "sub", 9999, 0, 9999);
        sum(sentence, "sub", 9998, 9999, 9999);
        sum(sentence, "sub", 7, 5, 2);
        Edge.of("II", sentence).core(HEAD + ";set 1 7;add 1 1 1;sub 1 1 1").calls("plainAt(1,2)=14 plainAt(1,3)=0");
    }

    // The PLAIN machine's STEP and the CORE's RUN come to the same.
    private static void sum(String sentence, String step, int a, int b, int due) {
        Edge.of("II", sentence).core(HEAD + ";set 1 " + a + ";set 2 " + b + ";" + step + " 3 1 2")
                .calls("plainSteps=3 plainAt(3,2)=0 plainAt(1,3)=" + a + " plainAt(2,3)=" + b + " plainAt(3,3)=" + due)
                .calls("fetch=0 fetch=1 fetch=2 run(0)=0 run(1)=0 run(2)=0 cell(10,0)=" + due);
    }

    private static void quotients() {
        sum("quotient (the lower WHOLE);", "div", 9999, 2, 4999);
        sum("quotient (the lower WHOLE);", "div", 1, 2, 0);
        sum("quotient (the lower WHOLE);", "div", 0, 9999, 0);
        sum("quotient (the lower WHOLE);", "div", 9999, 9999, 1);
        sum("quotient (the lower WHOLE);", "div", 9999, 1, 9999);
        sum("quotient (the lower WHOLE);", "div", 9998, 9999, 0);
        Edge.of("II", "a div by 0 TRAPS.").core(HEAD + ";div 1 0 0").calls("plainEnd=1 plainSteps=0 fetch=0 run(0)=0 entry(0,5)=1");
        Edge.of("II", "a div by 0 TRAPS.").core(HEAD + ";set 1 5;div 2 1 0")
                .calls("plainEnd=1 plainSteps=1 fetch=0 fetch=1 run(0)=0 run(1)=0 entry(1,5)=1");
        Edge.of("II", "a div by 0 TRAPS.").core(HEAD + ";set 1 5;div 2 0 1")
                .calls("plainEnd=0 plainSteps=2 fetch=0 fetch=1 run(0)=0 run(1)=0 entry(1,5)=0");
    }

    private static void moves() {
        Edge.of("II", "move: it becomes what the second is.").core(HEAD + ";set 1 9999;move 2 1;move 1 0;move 3 3")
                .calls("plainAt(2,1)=0 plainAt(2,2)=9999 plainAt(1,2)=9999 plainAt(1,3)=0 plainAt(2,4)=9999 plainAt(3,4)=0");
    }

    private static void skips() {
        String sentence = "skip: if both are the same, the STEP told is next, else the one behind.";
        Edge.of("II", sentence).core(HEAD + ";skip 1 2 3 no;set 5 5;set 6 6;set 7 7").calls("plainSteps=2 plainStep(1)=3");
        Edge.of("II", sentence).core(HEAD + ";set 1 9999;skip 1 0 3 yes;set 5 5;set 6 6").calls("plainSteps=4 plainStep(2)=2");
        Edge.of("II", sentence).core(HEAD + ";set 1 9999;set 2 9999;skip 1 2 4 yes;set 5 5;set 6 6")
                .calls("plainSteps=4 plainStep(3)=4");
        Edge.of("II", sentence).core(HEAD + ";skip 3 3 1 no;set 5 5").calls("plainSteps=2 plainStep(1)=1");
        Edge.of("II", sentence).core(HEAD + ";skip 3 3 0 no").calls("plainSteps=200 plainStep(1)=0");
    }

    private static void plainMachine() {
        Edge.of("II", "PLAIN: from STEP 0 on, all registers 0, one behind the other,").core(HEAD + ";set 1 5;set 2 6")
                .calls("plainStep(0)=0 plainStep(1)=1 plainStep(2)=2 plainAt(0,0)=0 plainAt(1,0)=0 plainAt(7,0)=0 plainAt(2,1)=0"
                        + " plainAt(1,1)=5 plainAt(2,2)=6");
        Edge.of("II", "until a STEP that isn't there (it ENDS),").core(HEAD + ";set 1 5")
                .calls("plainSteps=1 plainEnd=0 plainStep(1)=1");
        Edge.of("II", "until a STEP that isn't there (it ENDS),").core(HEAD + ";skip 0 0 2 no;set 1 5")
                .calls("plainSteps=1 plainEnd=0 plainStep(1)=2");
        Edge.of("II", "until a STEP that isn't there (it ENDS),").core(HEAD + ";skip 0 0 24 no;set 1 5")
                .calls("plainSteps=1 plainEnd=0 plainStep(1)=24");
        Edge.of("II", "until a STEP that isn't there (it ENDS),").core(HEAD + EdgeText.times(23, ";set 1 5") + ";skip 0 0 24 no")
                .calls("plainSteps=24 plainEnd=0 plainStep(24)=24");
        Edge.of("II", "a TRAP (that STEP isn't done),").core(HEAD + ";set 1 5;div 1 1 0;set 2 6")
                .calls("plainSteps=1 plainEnd=1 plainStep(1)=1 plainAt(1,1)=5 plainAt(1,2)!2");
        Edge.of("II", "or 200 were done.").core(loop(4, 66, "")).calls("plainSteps=200 plainStep(200)=5").core(loop(3, 66, ""))
                .calls("plainSteps=200").core(loop(2, 66, "")).calls("plainSteps=199");
    }

    private static void plainSteps() {
        Edge.of(6, "How many STEPS the PLAIN machine does.").core(HEAD + ";div 1 0 0").calls("plainSteps=0").core(HEAD + ";set 1 5")
                .calls("plainSteps=1")
                .core(loop(4, 65, "")).calls("plainSteps=198").core(loop(2, 66, "")).calls("plainSteps=199").core(loop(3, 66, ""))
                .calls("plainSteps=200")
                .core(loop(4, 66, "")).calls("plainSteps=200").core(HEAD + ";skip 0 0 0 no").calls("plainSteps=200 trouble=0");
        Edge.of(6, "How many STEPS the PLAIN machine does.").core(UNSURE)
                .calls("plainSteps=3 plainAt(1,1)=0 plainSteps=3 fits=2 plainSteps=3");
        Edge.of(6, "NONE: 1 (no CORE).").refused("plainSteps!1");
    }

    private static void plainEnd() {
        Edge.of(7, "0 it ENDS (right behind 200, too),").core(HEAD + ";set 1 5").calls("plainEnd=0").core(loop(2, 66, ""))
                .calls("plainSteps=199 plainEnd=0")
                .core(loop(3, 66, "")).calls("plainSteps=200 plainEnd=0 plainStep(200)=6");
        Edge.of(7, "1 it TRAPS,").core(HEAD + ";div 1 0 0").calls("plainEnd=1").core(loop(2, 66, ";div 4 4 0"))
                .calls("plainSteps=199 plainEnd=1 plainStep(199)=5");
        Edge.of(7, "2 behind 200 there is a STEP next.").core(loop(4, 66, "")).calls("plainEnd=2").core(loop(3, 66, ";set 1 1"))
                .calls("plainSteps=200 plainEnd=2 plainStep(200)=6")
                .core(loop(3, 66, ";div 4 4 0")).calls("plainSteps=200 plainEnd=2").core(HEAD + ";skip 0 0 0 yes")
                .calls("plainEnd=2");
        Edge.of(7, "1 it TRAPS,").core(UNSURE)
                .calls("plainEnd=1 plainAt(1,0)=0 plainEnd=1 plainStep(1)=1 plainEnd=1 fits=2 plainEnd=1 plainAt(1,3)=0"
                        + " plainEnd=1");
        Edge.of(7, "NONE: 1 (no CORE).").refused("plainEnd!1");
    }

    private static void plainAt() {
        Edge e = Edge.of(8, "A register behind n of them (0 .. how many it does).").core(HEAD + ";set 0 3;set 7 4");
        e.calls("plainAt(0,0)=0 plainAt(0,1)=3 plainAt(7,1)=0 plainAt(7,2)=4 plainAt(7,3)!2").core(loop(3, 66, ""))
                .calls("plainAt(1,200)=0 plainAt(1,199)=0 plainAt(1,198)=1 plainAt(1,0)=0 plainAt(1,1)=66 plainAt(1,201)!2");
        e.core(HEAD + ";div 1 0 0").calls("plainAt(1,0)=0 plainAt(1,1)!2");
        Edge.of(8, "A register behind n of them (0 .. how many it does).").core(UNSURE)
                .calls("plainAt(1,1)=0 plainAt(1,3)=0 plainAt(4,3)=0 plainAt(1,4)!2");
        Edge.of(8, "NONE: 1; 2.").refused("plainAt(0,0)!1 plainAt(8,999)!1").core(HEAD + ";set 1 5")
                .refused("plainAt(8,0)!1 plainAt(-1,0)!1 plainAt(8,2)!1 plainAt(-2147483648,-1)!1 plainAt(2147483647,0)!1"
                + " plainAt(0,-1)!2 plainAt(0,2)!2 plainAt(7,2147483647)!2 plainAt(7,-2147483648)!2").calls("plainAt(7,1)=0"
                        + " trouble=0");
    }

    private static void plainStep() {
        Edge.of(9, "Which STEP is the n-th it does, from 0;").core(HEAD + ";skip 0 0 2 no;set 1 1;set 2 2")
                .calls("plainStep(0)=0 plainStep(1)=2").core(loop(3, 66, "")).calls("plainStep(199)=4");
        Edge.of(9, "behind the last one which would be next.").core(HEAD + ";skip 0 0 2 no;set 1 1;set 2 2").calls("plainStep(2)=3")
                .core(HEAD + ";skip 0 0 24 yes").calls("plainStep(1)=24")
                .core(HEAD + ";div 1 0 0").calls("plainStep(0)=0").core(loop(3, 66, "")).calls("plainStep(200)=6")
                .core(HEAD + ";skip 0 0 0 yes").calls("plainStep(200)=0");
        Edge.of(9, "Which STEP is the n-th it does, from 0;").core(UNSURE)
                .calls("plainStep(0)=0 plainStep(1)=1 plainStep(2)=3 plainStep(3)=5 plainStep(4)!2");
        Edge.of(9, "NONE: 1 (no CORE); 2.").refused("plainStep(0)!1 plainStep(-1)!1").core(HEAD + ";set 1 5")
                .refused("plainStep(-1)!2 plainStep(2)!2 plainStep(2147483647)!2 plainStep(-2147483648)!2")
                .core(HEAD + ";div 1 0 0").refused("plainStep(1)!2").core(HEAD + ";skip 0 0 0 yes").refused("plainStep(201)!2")
                .calls("plainStep(200)=0 trouble=0");
    }

    private static void plainMisses() {
        String sentence = "How many skips it does behind which the next STEP isn't as guessed.";
        Edge.of(10, sentence).core(HEAD + ";set 1 5").calls("plainMisses=0").core(HEAD + ";skip 0 0 1 no").calls("plainMisses=0")
                .core(HEAD + ";set 1 1;skip 0 1 2 yes").calls("plainMisses=0")
                .core(HEAD + ";skip 0 0 0 no").calls("plainMisses=200").core(HEAD + ";skip 0 0 0 yes").calls("plainMisses=0")
                .core(HEAD + ";set 1 1;skip 0 1 0 yes").calls("plainMisses=1")
                .core(HEAD + ";skip 0 0 2 no").calls("plainMisses=1").core(HEAD + ";skip 0 0 2 yes;skip 0 0 0 no")
                .calls("plainMisses=0").core(HEAD + ";div 1 0 0;skip 0 0 0 no").calls("plainMisses=0");
        Edge.of(10, sentence).core(UNSURE)
                .calls("plainMisses=1 plainAt(1,0)=0 plainMisses=1 plainStep(1)=1 plainMisses=1 fits=2 plainMisses=1");
        Edge.of(10, "NONE: 1 (no CORE).").refused("plainMisses!1");
    }
}
