/** Term III from CYCLE to SEED, and promises 28 to 42: what is counted, unsure numbers, what is drawn. */
final class EdgeCount {
    private static final String WIDE = "core cells 24 window 8 saves 0 share 4 late";
    private static final String PAIR = "core cells 12 window 2 saves 1 share 1 late";
    private static final String EARLY = "core cells 12 window 8 saves 0 share 1 early";

    private EdgeCount() {
    }

    static void all() {
        cycle();
        cyclesOfAProgram();
        threeHundred();
        fitsAndAsk();
        bySeed();
        cycles();
        commits();
        misses();
        crowd();
        cellsFor();
        rate();
        fits();
        fitAt();
        could();
        surely();
        ask();
        askLeaves();
        judge();
        drawnCommits();
        drawnValue();
    }

    private static void cycle() {
        // 1 takes the set and a move; 2 runs the set and takes two moves; 3 commits two and takes the last; 4 commits two; 5 one
        Edge.of("III", "CYCLE: up to two COMMITS").core(WIDE + ";set 1 5;move 2 0;move 3 0;move 4 0;move 5 6")
                .calls("cycles(24)=5 commits(24)=5");
        Edge.of("III", "(one that STOPS is the last);").core(WIDE + ";div 1 0 0;move 2 0;set 3 1")
                .calls("cycles(24)=3 commits(24)=0").core(WIDE + ";set 1 1;div 2 1 0;move 3 0").calls("cycles(24)=3 commits(24)=1")
                .core(WIDE + ";move 1 0;move 2 0;div 3 0 0").calls("cycles(24)=4 commits(24)=2");
        Edge.of("III", "up to two RUNS, of the oldest that can be, one behind the other").core(WIDE + ";set 1 5;add 2 1 1")
                .calls("cycles(24)=3").core(WIDE + ";set 1 5;add 2 1 1;sub 3 2 1;add 4 3 3")
                .calls("cycles(24)=4 commits(24)=4 rate(24,0)=1 rate(24,1)=1");
        // 1 takes the skip and STEP 1; 2 runs the skip alone and takes STEPS 2, 3; 3 commits it and runs both; 4 commits both
        Edge.of("III", "(behind a MISS none);").core(WIDE + ";skip 0 0 2 no;set 1 1;set 2 2;set 3 3")
                .calls("cycles(24)=4 commits(24)=3 misses(24)=1 crowd(24)=10");
        // behind the 2nd CYCLE four are in the WINDOW, none is committed
        Edge.of("III", "up to two FETCHES.").core(WIDE + ";set 1 1;set 2 2;set 3 3;set 4 4;set 5 5")
                .calls("cycles(24)=5 crowd(24)=12 commits(24)=5").core(WIDE + ";set 1 1;set 2 2")
                .calls("cycles(24)=3 crowd(24)=10");
    }

    private static void cyclesOfAProgram() {
        Edge.of("III", "CYCLES of a program: from the beginning on, by so many CELLS,")
                .core("core cells 24 window 8 saves 0 share 1 late;set 1 1;set 2 2;set 3 3")
                .calls("cycles(24)=4 cycles(9)=7 fetch=0 fetch=1 run(0)=0 commit=0 cycles(24)=4 cycles(9)=7 cycles(10)=5"
                        + " crowd(9)=9 crowd(10)=10 entries=1");
        Edge.of("III", "till the CORE STOPS (that CYCLE counts),").core(WIDE + ";div 1 0 0").calls("cycles(9)=3 commits(9)=0")
                .core(WIDE + ";div 1 0 0;set 1 1;set 1 1;set 1 1;set 1 1;set 1 1").calls("cycles(9)=3 commits(9)=0");
        Edge.of("III", "or the WINDOW is empty and there is no STEP to FETCH;").core(WIDE + ";move 1 0").calls("cycles(9)=2")
                .core(WIDE + ";set 1 5").calls("cycles(9)=3").core(WIDE + ";skip 0 0 24 no;set 1 1")
                .calls("cycles(9)=3 commits(9)=1 misses(9)=1");
        // the WINDOW is empty, and there is a STEP: 1 takes the skip, 2 runs it; what was behind it is taken out
        Edge.of("III", "or the WINDOW is empty and there is no STEP to FETCH;")
                .core("core cells 9 window 2 saves 0 share 1 late;set 1 1;skip 0 0 3 no;set 2 2;set 3 3")
                .calls("cycles(9)=5 commits(9)=3 misses(9)=1");
    }

    // A WINDOW of 2: two STEPS are taken, run and committed in CYCLES 2 k + 1, 2 k + 2 and 2 k + 3.
    private static String countDown(int ahead, int times, String behind) {
        return EdgePlain.loop(ahead, times, behind).replace("core cells 24 window 12 saves 1 share 1 late", PAIR);
    }

    private static void threeHundred() {
        Edge.of("III", "300 at most.").core(countDown(4, 98, ""))
                .calls("cycles(12)=299 commits(12)=297 misses(12)=1 cellsFor(299)=10 cellsFor(298)=-2")
                .core(countDown(2, 99, "")).calls("cycles(12)=299 commits(12)=298 misses(12)=1")
                .core(countDown(4, 98, ";set 4 4"))
                .calls("cycles(12)=300 commits(12)=298 misses(12)=1 cellsFor(299)=-2 cellsFor(300)=9")
                .core(countDown(4, 98, ";div 4 4 0")).calls("cycles(12)=300 commits(12)=297 misses(12)=1")
                .core(countDown(3, 99, "")).calls("cycles(12)=300 commits(12)=298 misses(12)=1 plainSteps=200")
                .core(countDown(2, 99, ";div 4 4 0")).calls("cycles(12)=300 commits(12)=298 misses(12)=1")
                .core(countDown(4, 999, "")).calls("cycles(12)=300 commits(12)=298 misses(12)=0 cellsFor(300)=9 cellsFor(299)=-2");
    }

    private static void fitsAndAsk() {
        Edge.of("III", "FITS: sets of unsure sets which were the other ones by which the PLAIN machine came to all that was got:"
                        + " all such.")
                .core(WIDE + ";set 1 2;set 2 3;add 3 1 2;unsure 0 3;unsure 1 2;got 3 5").calls("fits=2 fitAt(0)=0 fitAt(1)=3")
                .core(WIDE + ";set 1 2;set 2 3;add 3 1 2;unsure 0 3;unsure 1 2;got 3 5;got 1 3").calls("fits=1 fitAt(0)=3")
                .core(WIDE + ";set 1 2;unsure 0 2;got 1 2").calls("fits=2 fitAt(0)=0 fitAt(1)=1").core(WIDE + ";set 1 2")
                .calls("fits=1 fitAt(0)=0")
                .core(WIDE + ";set 1 2;set 2 0;div 3 1 2;set 4 7;unsure 1 1;got 4 7").calls("fits=1 fitAt(0)=1")
                .core(WIDE + ";set 2 1;add 1 1 2;skip 0 0 1 yes;unsure 0 2;got 1 100").calls("fits=1 fitAt(0)=0");
        Edge.of("III", "ASK: the unsure one by which, it being told, at most fewest FITS are left, the first such.")
                .core(WIDE + ";set 1 2;set 2 3;unsure 0 9;unsure 1 4;got 1 2").calls("ask=1 askLeaves=1")
                .core(WIDE + ";set 1 2;set 2 3;unsure 0 9;unsure 1 4").calls("fits=4 ask=0 askLeaves=2")
                .core(WIDE + ";set 1 1;set 2 1;set 3 1;add 4 1 2;add 4 4 3;unsure 0 0;unsure 1 0;unsure 2 0;got 4 2")
                .calls("fits=3 fitAt(0)=1 fitAt(1)=2 fitAt(2)=4 ask=0 askLeaves=2")
                .core(WIDE + ";set 1 1;set 2 2;set 3 3;unsure 0 5;unsure 1 5;unsure 2 5;got 1 1;got 2 2")
                .calls("fits=2 ask=2 askLeaves=1");
    }

    // DRAWS by 970: 7287 (FETCH), 22303 (RUN), 34374 (which), 22181 (COMMIT), 25224 (FETCH); by 930: 4287, 59451 (FETCHES), 2383 (RUN),
    // 47725 (which), 40451 (COMMIT); by 889: 1212, 25437, 7276, 21478 (which), 38036; by 1973: 16975 (RUN), 27996 (FETCH), 2590 (RUN),
    // 63250 (which), 25160 (COMMIT); by 45438: 0 (FETCH), 74 (COMMIT); by 0: 74, 5624, 28652 (COMMITS); by 65536 always 65536 (RUN).
    private static void bySeed() {
        String sets = "core cells 12 window 8 saves 0 share 1 late;set 1 5;set 2 6";
        Edge.of("III", "By a SEED: n tries from NOW on:").core(sets)
                .calls("drawnCommits(970,0)=0 drawnCommits(970,2)=0 drawnCommits(970,3)=1 drawnValue(1,970,2)=0"
                        + " drawnValue(1,970,3)=5 fetch=0 run(0)=0 drawnCommits(0,0)=0 drawnCommits(0,1)=1 drawnCommits(0,3)=1"
                        + " drawnValue(1,0,1)=5 commit=0 drawnCommits(0,1)=0 drawnValue(1,0,0)=5");
        Edge.of("III", "a DRAW mod 3 for each: 0 a FETCH,").core(EARLY + ";set 1 5")
                .calls("drawnValue(1,45438,0)=0 drawnValue(1,45438,1)=-2 drawnValue(1,970,1)=-2 drawnValue(1,0,1)=0"
                        + " drawnValue(1,65536,1)=0");
        String run = "1 a RUN (a DRAW more mod how many ENTRIES there are, 0 the oldest;";
        Edge.of("III", run).core(sets).calls("drawnCommits(930,4)=0 drawnCommits(889,4)=1 drawnCommits(889,3)=0")
                .core("core cells 12 window 8 saves 0 share 1 early;set 1 5;skip 0 0 2 no;set 2 6")
                .calls("fetch=0 fetch=1 fetch=2 value(2)=0 drawnValue(2,65536,0)=0 drawnValue(2,65536,1)=-2"
                        + " drawnValue(2,65536,300)=-2 drawnCommits(65536,300)=0 value(2)=0");
        Edge.of("III", "none with no ENTRY),").core(sets)
                .calls("drawnCommits(1973,3)=0 drawnCommits(1973,4)=1 drawnCommits(65536,300)=0");
        Edge.of("III", "2 a COMMIT;").core(sets)
                .calls("fetch=0 run(0)=0 fetch=1 run(1)=0 drawnCommits(0,1)=1 drawnCommits(0,2)=2 drawnCommits(0,3)=2");
        Edge.of("III", "what can't be isn't").core(sets)
                .calls("drawnCommits(0,1)=0 drawnCommits(65536,1)=0 fetch=0 drawnCommits(0,3)=0 fetch=1 drawnCommits(45438,2)=0")
                .core("core cells 9 window 2 saves 0 share 1 late;div 1 0 0")
                .calls("fetch=0 run(0)=0 commit=-2 drawnCommits(970,300)=0 drawnValue(1,970,300)=0 size(10)=1");
        Edge.of("III", "(SEED becomes (75 times SEED and 74) mod 65,537).").core(sets)
                .calls("drawnCommits(970,3)=1 drawnCommits(970,4)=1 drawnValue(2,65536,300)=0 drawnCommits(0,300)=2"
                        + " drawnValue(2,0,300)=6");
    }

    private static void cellsOnly(int promise, String quote, String call, String more) {
        Edge.of(promise, quote).refused(call + "(9" + more + ")!1 " + call + "(0" + more + ")!1").core(WIDE + ";set 1 5")
                .refused(call + "(8" + more + ")!2 " + call + "(25" + more + ")!2 " + call + "(-1" + more + ")!2"
                        + " " + call + "(0" + more + ")!2 " + call + "(2147483647" + more + ")!2"
                        + " " + call + "(-2147483648" + more + ")!2");
    }

    private static void cycles() {
        Edge.of(28, "CYCLES by so many CELLS (9 .. 24).").core("core cells 9 window 8 saves 0 share 1 late;set 1 1;set 2 2;set 3 3")
                .calls("cycles(9)=7 cycles(10)=5 cycles(11)=4 cycles(24)=4 trouble=0 cycles(8)!2 cycles(25)!2");
        cellsOnly(28, "NONE: 1 (no CORE); 2.", "cycles", "");
    }

    private static void commits() {
        Edge.of(29, "How many STEPS are COMMITTED in them.").core(WIDE + ";div 1 0 0").calls("commits(9)=0 trouble=0")
                .core(WIDE + ";set 1 5").calls("commits(9)=1 commits(24)=1").core(PAIR + ";skip 0 0 0 yes")
                .calls("commits(9)=298 commits(24)=298")
                .core(PAIR + ";skip 0 0 2 no;set 1 1;set 2 2;div 1 0 0").calls("commits(24)=2");
        cellsOnly(29, "NONE: 1 (no CORE); 2.", "commits", "");
    }

    private static void misses() {
        Edge.of(30, "How many MISSES there are.").core(WIDE + ";set 1 5").calls("misses(9)=0 trouble=0")
                .core(WIDE + ";skip 0 0 1 no").calls("misses(9)=0").core(WIDE + ";skip 0 0 2 no").calls("misses(9)=1 misses(24)=1")
                .core(WIDE + ";skip 0 0 0 no").calls("misses(9)=299 commits(9)=298 cycles(9)=300 plainMisses=200")
                .core(WIDE + ";skip 0 0 0 yes").calls("misses(9)=0");
        // a skip on the guessed path that a MISS takes out before it runs isn't one
        Edge.of(30, "How many MISSES there are.").core(WIDE + ";skip 0 0 2 no;skip 0 0 0 no").calls("misses(24)=1 commits(24)=1");
        Edge.of(30, "How many MISSES there are.").core(WIDE + ";skip 0 0 2 no").calls("misses(9)=1").told(WIDE + ";set 1 5", 1)
                .calls("misses(9)=0").told(WIDE + ";skip 0 0 2 no", 1).calls("misses(9)=1 misses(9)=1");
        cellsOnly(30, "NONE: 1 (no CORE); 2.", "misses", "");
    }

    private static void crowd() {
        Edge.of(31, "The most CELLS that aren't FREE behind any CYCLE.").core(WIDE + ";skip 0 0 0 yes")
                .calls("crowd(9)=8 trouble=0").core(WIDE + ";set 1 5").calls("crowd(9)=9 crowd(24)=9").core(EARLY + ";set 1 5")
                .calls("crowd(9)=8")
                .core("core cells 12 window 8 saves 0 share 3 early;move 1 0;move 2 0").calls("crowd(9)=6 cycles(9)=2")
                .core(WIDE + ";set 1 1;set 2 2;set 3 3;set 4 4;set 5 5").calls("crowd(9)=9 crowd(11)=11 crowd(12)=12 crowd(24)=12");
        Edge.of(31, "The most CELLS that aren't FREE behind any CYCLE.").core(WIDE + ";set 1 1;set 2 2;set 3 3")
                .calls("crowd(24)=11").told(WIDE + ";skip 0 0 1 yes", 1).calls("crowd(24)=8 crowd(24)=8");
        cellsOnly(31, "NONE: 1 (no CORE); 2.", "crowd", "");
    }

    private static void cellsFor() {
        Edge.of(32, "The fewest CELLS (9 .. 24) by which it takes n CYCLES (0 .. 300) or fewer;")
                .core("core cells 24 window 8 saves 0 share 1 late;set 1 1;set 2 2;set 3 3")
                .calls("cellsFor(300)=9 cellsFor(7)=9 cellsFor(6)=10 cellsFor(5)=10 cellsFor(4)=11 trouble=0");
        Edge.of(32, "-2.").core("core cells 24 window 8 saves 0 share 1 late;set 1 1;set 2 2;set 3 3")
                .calls("cellsFor(3)=-2 trouble=0 cellsFor(0)=-2").core(PAIR + ";skip 0 0 0 yes")
                .calls("cellsFor(299)=-2 cellsFor(300)=9 trouble=0");
        Edge.of(32, "NONE: 1 (no CORE); 2.").refused("cellsFor(0)!1 cellsFor(-1)!1").core(WIDE + ";set 1 5")
                .refused("cellsFor(-1)!2 cellsFor(301)!2 cellsFor(2147483647)!2 cellsFor(-2147483648)!2");
    }

    private static void rate() {
        Edge.of(33, "STEPS COMMITTED by CYCLE, by so many CELLS (9 .. 24), the upper WHOLE or the lower, in lowest terms")
                .core(PAIR + ";skip 0 0 0 yes").calls("rate(9,0)=149 rate(9,1)=150 rate(24,0)=149 rate(24,1)=150 trouble=0")
                .core(WIDE + ";set 1 1;set 2 2;set 3 3;set 4 4").calls("rate(24,0)=1 rate(24,1)=1")
                .core(WIDE + ";set 1 1").calls("rate(9,0)=1 rate(9,1)=3").core(WIDE + ";set 1 1;skip 0 0 2 yes")
                .calls("rate(24,0)=2 rate(24,1)=3")
                .core(WIDE + ";set 1 1;set 2 2;set 3 3;set 4 4;set 5 5;set 6 6;set 7 7;set 1 1;set 2 2;set 3 3")
                .calls("cycles(24)=7 rate(24,0)=10 rate(24,1)=7");
        Edge.of(33, "(0 by 1, of none).").core(WIDE + ";div 1 0 0")
                .calls("cycles(24)=3 rate(24,0)=0 trouble=0 rate(24,1)=1 rate(9,0)=0 rate(9,1)=1");
        cellsOnly(33, "-1: 1 (no CORE); 2.", "rate", ",0");
        cellsOnly(33, "-1: 1 (no CORE); 2.", "rate", ",1");
    }

    private static final String FOUR = WIDE + ";set 1 1;set 2 1;set 3 1;set 4 1;unsure 0 1;unsure 1 2;unsure 2 2;unsure 3 2";
    private static final String NO_FIT = WIDE + ";set 1 2;set 2 3;unsure 1 4;got 1 2;got 2 99";
    private static final String NO_UNSURE = WIDE + ";set 1 2;got 1 2";

    private static void fits() {
        Edge.of(34, "FITS: how many.").core(FOUR).calls("fits=16 trouble=0").core(NO_FIT).calls("fits=0 trouble=0").core(NO_UNSURE)
                .calls("fits=1").core(WIDE + ";set 1 2;got 1 3").calls("fits=0");
        Edge.of(34, "NONE: 1 (no CORE).").refused("fits!1");
    }

    private static void fitAt() {
        Edge.of(35, "The i-th, by bits of unsure ones as told.").core(FOUR).calls("fitAt(0)=0 fitAt(1)=1 fitAt(15)=15 trouble=0")
                .core(WIDE + ";set 1 2;set 2 3;unsure 1 2;unsure 0 3;got 1 3;got 2 3").calls("fits=1 fitAt(0)=2");
        Edge.of(35, "NONE: 1 (i, too).").refused("fitAt(0)!1 fitAt(-1)!1").core(FOUR)
                .refused("fitAt(16)!1 fitAt(-1)!1 fitAt(2147483647)!1 fitAt(-2147483648)!1").core(NO_FIT).refused("fitAt(0)!1")
                .core(NO_UNSURE).calls("fitAt(0)=0").refused("fitAt(1)!1");
    }

    private static void could() {
        Edge.of(36, "Unsure ones in some, as bits.").core(FOUR).calls("could=15 trouble=0").core(NO_FIT).calls("could=0 trouble=0")
                .core(NO_UNSURE).calls("could=0").core(WIDE + ";set 1 2;set 2 3;unsure 0 9;unsure 1 4;got 1 2").calls("could=2");
        Edge.of(36, "NONE: 1 (no CORE).").refused("could!1");
    }

    private static void surely() {
        Edge.of(37, "Unsure ones in all (0 without a set), as bits.").core(FOUR).calls("surely=0 trouble=0").core(NO_FIT)
                .calls("surely=0 trouble=0").core(NO_UNSURE).calls("surely=0")
                .core(WIDE + ";set 1 2;set 2 3;unsure 0 9;unsure 1 4;got 1 9").calls("surely=1")
                .core(WIDE + ";set 1 1;set 2 1;set 3 1;set 4 1;unsure 0 2;unsure 1 2;unsure 2 2;unsure 3 2;got 1 2;got 2 2;got 3"
                        + " 2;got 4 2").calls("surely=15 could=15 fits=1 fitAt(0)=15");
        Edge.of(37, "Unsure ones in all (0 without a set), as bits.")
                .core(WIDE + ";set 1 2;set 2 3;add 3 1 2;unsure 0 3;unsure 1 2;got 3 5")
                .calls("fits=2 fitAt(0)=0 fitAt(1)=3 surely=0 could=3");
        Edge.of(37, "NONE: 1 (no CORE).").refused("surely!1");
    }

    private static void ask() {
        Edge.of(38, "ASK;").core(FOUR).calls("ask=0 trouble=0")
                .core(WIDE + ";set 1 1;set 2 1;set 3 1;set 4 1;unsure 0 2;unsure 1 2;unsure 2 2;unsure 3 2;got 1 1;got 2 1;got 3 2")
                .calls("fits=2 ask=3");
        Edge.of(38, "-2 no FITS, no unsure one.").core(NO_FIT).calls("ask=-2 trouble=0").core(NO_UNSURE)
                .calls("fits=1 ask=-2 trouble=0").core(WIDE + ";set 1 2;got 1 3").calls("ask=-2");
        Edge.of(38, "NONE: 1 (no CORE).").refused("ask!1");
    }

    private static void askLeaves() {
        Edge.of(39, "How many are left at most then;").core(FOUR).calls("askLeaves=8 trouble=0")
                .core(WIDE + ";set 1 1;unsure 0 2;got 1 1").calls("fits=1 ask=0 askLeaves=1").core(WIDE + ";set 1 1;unsure 0 2")
                .calls("askLeaves=1")
                .core(WIDE + ";set 1 1;set 2 1;set 3 1;add 4 1 2;add 4 4 3;unsure 0 0;unsure 1 0;unsure 2 0;got 4 2")
                .calls("fits=3 askLeaves=2");
        Edge.of(39, "-2 likewise.").core(NO_FIT).calls("askLeaves=-2 trouble=0").core(NO_UNSURE).calls("askLeaves=-2 trouble=0");
        Edge.of(39, "NONE: 1 (no CORE).").refused("askLeaves!1");
    }

    private static void judge() {
        Edge.of(40, "The first got, as told, that isn't so by STEPS as told;")
                .core(WIDE + ";set 1 2;got 7 0;got 0 0;got 1 3;got 2 9").calls("judge=2 trouble=0")
                .core(WIDE + ";set 1 2;got 1 3;got 0 0").calls("judge=0")
                .core(WIDE + ";set 1 2;got 0 0;got 2 0;got 3 0;got 4 0;got 5 0;got 1 3").calls("judge=5")
                .core(WIDE + ";set 1 2;unsure 0 3;got 1 3").calls("judge=0 fits=1");
        Edge.of(40, "-2.").core(WIDE + ";set 1 2;got 1 2;got 0 0").calls("judge=-2 trouble=0").core(WIDE + ";set 1 2")
                .calls("judge=-2").core(WIDE + ";set 1 2;unsure 0 3;got 1 2").calls("judge=-2");
        Edge.of(40, "NONE: 1 (no CORE).").refused("judge!1");
    }

    private static void drawnCommits() {
        Edge.of(41, "How many STEPS are COMMITTED by a SEED (0 .. 65,536), n 0 .. 300").core(EARLY + ";set 1 5")
                .calls("fetch=0 run(0)=0 drawnCommits(0,0)=0 drawnCommits(0,1)=1 drawnCommits(0,300)=1 drawnCommits(65536,300)=0"
                        + " drawnCommits(65536,0)=0 trouble=0 size(8)=0 entries=1 size(11)=2 commit=0 drawnCommits(0,300)=0");
        Edge.of(41, "(TRAPPED ones not).").core(EARLY + ";div 1 0 0")
                .calls("fetch=0 run(0)=0 drawnCommits(0,1)=0 drawnCommits(0,300)=0 size(10)=0").core(EARLY + ";set 1 5;div 1 0 0")
                .calls("fetch=0 fetch=1 run(0)=0 run(1)=0 drawnCommits(0,1)=1 drawnCommits(0,2)=1 drawnCommits(0,300)=1");
        Edge.of(41, "NONE: 1 (no CORE); 2.").refused("drawnCommits(0,0)!1 drawnCommits(-1,-1)!1").core(EARLY + ";set 1 5")
                .refused("drawnCommits(-1,0)!2 drawnCommits(65537,0)!2 drawnCommits(0,-1)!2 drawnCommits(0,301)!2"
                        + " drawnCommits(2147483647,1)!2 drawnCommits(-2147483648,1)!2"
                + " drawnCommits(1,2147483647)!2 drawnCommits(1,-2147483648)!2");
    }

    private static void drawnValue() {
        Edge.of(42, "A register as KEPT then;").core(EARLY + ";set 0 5;set 7 6")
                .calls("drawnValue(0,0,0)=0 drawnValue(7,0,0)=0 fetch=0 fetch=1 run(0)=0 run(1)=0 drawnValue(0,0,1)=5"
                        + " drawnValue(7,0,2)=6 drawnValue(7,65536,300)=-2 trouble=0 value(0)=-2 entries=2 size(11)=4");
        Edge.of(42, "-2 it is LET GO.").core(EARLY + ";set 1 5")
                .calls("drawnValue(1,970,0)=0 drawnValue(1,970,1)=-2 drawnValue(1,970,2)=-2 drawnValue(1,970,3)=5"
                        + " drawnValue(0,970,2)=0 value(1)=0 trouble=0");
        Edge.of(42, "NONE: 1; 2.").refused("drawnValue(0,0,0)!1 drawnValue(8,-1,0)!1").core(EARLY + ";set 1 5")
                .refused("drawnValue(8,0,0)!1 drawnValue(-1,0,0)!1 drawnValue(8,-1,-1)!1 drawnValue(2147483647,0,0)!1"
                        + " drawnValue(-2147483648,0,0)!1"
                + " drawnValue(7,-1,0)!2 drawnValue(7,65537,0)!2 drawnValue(0,0,-1)!2 drawnValue(0,0,301)!2"
                        + " drawnValue(0,2147483647,0)!2 drawnValue(0,0,2147483647)!2"
                        + " drawnValue(0,-2147483648,-2147483648)!2").calls("drawnValue(7,65536,300)=0 trouble=0");
    }
}
