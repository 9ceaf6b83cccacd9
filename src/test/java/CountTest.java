/** Promises 28 to 42: cycles, unsure numbers, what is drawn. */
public final class CountTest {
    private static final String HEAD = "core cells 10 window 4 saves 1 share 2 late";
    private static final String LATE = "core cells 12 window 8 saves 0 share 1 late";
    private static final String EARLY = "core cells 12 window 8 saves 0 share 1 early";

    private CountTest() {
    }

    public static void main(String[] args) {
        oneStep();
        pairs();
        missesInCycles();
        manyCells();
        longest();
        manyFits();
        asks();
        noFits();
        fitsByTraps();
        drawn();
        drawnFromNow();
        Check.end("CountTest");
    }

    // CYCLE 1 fetches, 2 runs, 3 commits.
    private static void oneStep() {
        Check.script("a set, late", Check.of(LATE + ";set 1 5"), "cycles(9)=3 commits(9)=1 misses(9)=0 crowd(9)=9 rate(9,0)=1 rate(9,1)=3"
                + " cellsFor(3)=9 cellsFor(2)=-2 cellsFor(0)=-2 cellsFor(300)=9 cellsFor(-1)!2 cellsFor(301)!2");
        Check.script("a set, early", Check.of(EARLY + ";set 1 5"), "cycles(9)=3 commits(24)=1 crowd(9)=8 crowd(24)=8");
        Check.script("a trap", Check.of(LATE + ";div 1 0 0;set 2 2"), "cycles(10)=3 commits(10)=0 misses(10)=0 crowd(10)=10 rate(10,0)=0 rate(10,1)=1");
        Check.script("bounds", Check.of(LATE + ";set 1 5"), "cycles(8)!2 cycles(25)!2 commits(8)!2 commits(25)!2 misses(8)!2 misses(25)!2"
                + " crowd(8)!2 crowd(25)!2 rate(8,0)!2 rate(25,1)!2 rate(24,0)=1 trouble=0 cycles(24)=3");
        String merged = "core cells 12 window 8 saves 0 share 3 early;move 1 0;move 2 0";
        Check.script("crowd behind a cycle, not ahead of the first", Check.of(merged), "cycles(9)=2 commits(9)=2 crowd(9)=6 rate(9,0)=1 rate(9,1)=1");
    }

    private static void pairs() {
        Check.script("the second runs by what the first came to", Check.of(LATE + ";set 1 5;add 2 1 1"), "cycles(12)=3 commits(12)=2 rate(12,0)=2 rate(12,1)=3");
        Check.script("two at once", Check.of(LATE + ";set 1 1;set 2 2;set 3 3"), "cycles(12)=4 commits(12)=3 crowd(12)=11");
        Check.script("two at once", Check.of(LATE + ";set 1 1;set 2 2;set 3 3;set 4 4"), "cycles(12)=4 commits(12)=4 rate(12,0)=1 rate(12,1)=1 crowd(12)=12");
        Check.script("a window of 2", Check.of("core cells 12 window 2 saves 0 share 1 late;set 1 1;set 2 2;set 3 3"), "cycles(12)=5 commits(12)=3 crowd(12)=10");
    }

    // CYCLE 1: skip and STEP 1 come; 2: a MISS, and STEP 2 comes; 3: skip commits, STEP 2 runs; 4: it commits.
    private static void missesInCycles() {
        Check.script("a miss", Check.of(LATE + ";skip 0 0 2 no;set 1 1;set 2 2"), "cycles(12)=4 commits(12)=2 misses(12)=1 rate(12,0)=1 rate(12,1)=2");
        Check.script("none", Check.of(LATE + ";skip 0 0 2 yes;set 1 1;set 2 2"), "cycles(12)=3 commits(12)=2 misses(12)=0");
        Check.script("either way the same", Check.of(LATE + ";skip 0 0 1 no"), "cycles(12)=3 misses(12)=0");
        Check.script("a miss of the last one", Check.of(LATE + ";set 1 1;skip 0 1 0 yes"), "misses(12)=1 commits(12)=2 cycles(12)=3");
    }

    private static void manyCells() {
        RenamedCells x = Check.of(HEAD + ";set 1 5;set 2 7;add 3 1 2;move 4 3;skip 1 2 6 yes;sub 5 1 2;div 6 3 0");
        Check.script("cells", x, "cycles(10)=7 commits(10)=6 misses(10)=1 crowd(10)=10 cycles(9)=9 cycles(11)=6 cellsFor(7)=10 cellsFor(8)=10"
                + " cellsFor(9)=9 cellsFor(6)=11 cellsFor(5)=-2 rate(10,0)=6 rate(10,1)=7 rate(9,0)=2 rate(9,1)=3 rate(11,0)=1 rate(11,1)=1");
        Check.script("whatever was done", x, "fetch=0 run(0)=0 commit=0 cycles(10)=7 commits(10)=6 entries=0 size(8)=1");
        Check.due("told anew", Check.tell(x, LATE + ";set 1 5"), 1);
        Check.script("told anew", x, "cycles(10)=3 commits(10)=1 misses(10)=0 crowd(10)=9 cycles(9)=3 cellsFor(3)=9");
        Check.due("refused", Check.tell(x, LATE + ";set 1"), -1);
        Check.script("refused", x, "cycles(10)=3 commits(10)=1 crowd(10)=9");
    }

    private static void longest() {
        Check.script("300 at most", Check.of("core cells 9 window 2 saves 0 share 1 late;skip 0 0 0 yes"),
                "cycles(9)=300 commits(9)=298 rate(9,0)=149 rate(9,1)=150 cellsFor(299)=-2 cellsFor(300)=9 crowd(9)=8");
    }

    private static void manyFits() {
        String text = HEAD + ";set 1 2;set 2 3;add 3 1 2;unsure 0 3;unsure 1 2;got 3 ";
        Check.script("none or both", Check.of(text + "5"), "fits=2 fitAt(0)=0 fitAt(1)=3 fitAt(2)!1 fitAt(-1)!1 could=3 surely=0 ask=0 askLeaves=1 judge=-2");
        Check.script("the first alone", Check.of(text + "6"), "fits=1 fitAt(0)=1 fitAt(1)!1 could=1 surely=1 ask=0 askLeaves=1 judge=0");
        Check.script("the second alone", Check.of(text + "4"), "fits=1 fitAt(0)=2 could=2 surely=2 ask=0 askLeaves=1 judge=0");
        Check.script("as unsure ones are told, not as sets", Check.of(HEAD + ";set 1 2;set 2 3;unsure 1 2;unsure 0 3;got 1 3;got 2 3"),
                "fits=1 fitAt(0)=2 could=2 surely=2 judge=0");
        Check.script("no matter what was done", Check.of(text + "5"), "fetch=0 run(0)=0 commit=0 fits=2 judge=-2");
        Check.script("4 unsure, nothing got", Check.of(HEAD + ";set 1 1;set 2 1;set 3 1;set 4 1;unsure 0 1;unsure 1 2;unsure 2 2;unsure 3 2"),
                "fits=16 fitAt(0)=0 fitAt(15)=15 fitAt(16)!1 could=15 surely=0 ask=0 askLeaves=8 judge=-2");
    }

    private static void asks() {
        String text = HEAD + ";set 1 2;set 2 3;unsure 0 9;unsure 1 4;got 1 ";
        Check.script("the second parts them", Check.of(text + "2"), "fits=2 fitAt(0)=0 fitAt(1)=2 could=2 surely=0 ask=1 askLeaves=1");
        Check.script("in all", Check.of(text + "9"), "fits=2 fitAt(0)=1 fitAt(1)=3 could=3 surely=1 ask=1 askLeaves=1 judge=0");
        Check.script("no unsure one", Check.of(HEAD + ";set 1 2;got 1 2"), "fits=1 fitAt(0)=0 could=0 surely=0 ask=-2 askLeaves=-2 judge=-2");
    }

    private static void noFits() {
        RenamedCells x = Check.of(HEAD + ";set 1 2;set 2 3;unsure 1 4;got 1 2;got 2 99;got 3 1");
        Check.script("none", x, "fits=0 fitAt(0)!1 could=0 surely=0 ask=-2 askLeaves=-2 judge=1 trouble=0");
    }

    private static void fitsByTraps() {
        Check.script("what it came to at a trap", Check.of(HEAD + ";set 1 2;set 2 0;div 3 1 2;set 4 7;unsure 1 1;got 4 0"),
                "fits=1 fitAt(0)=0 judge=-2");
        Check.script("and without", Check.of(HEAD + ";set 1 2;set 2 0;div 3 1 2;set 4 7;unsure 1 1;got 4 7"), "fits=1 fitAt(0)=1 judge=0");
        Check.script("behind 200", Check.of(HEAD + ";set 2 1;add 1 1 2;skip 0 0 1 yes;unsure 0 2;got 1 100"), "plainSteps=200 fits=1 fitAt(0)=0");
        Check.script("behind 200", Check.of(HEAD + ";set 2 1;add 1 1 2;skip 0 0 1 yes;unsure 0 2;got 1 200"), "fits=1 fitAt(0)=1 judge=0");
    }

    // Seed 970 becomes 7287 (FETCH), 22303 (RUN), 34374 (which one), 22181 (COMMIT); 930: 4287, 59451 (two
    // FETCHES), 2383 (RUN), 47725 (the second), 40451 (COMMIT); 889: 1212, 25437, 7276, 21478 (the oldest),
    // 38036; 1973: 16975 (RUN, of none), 27996 (FETCH), 2590 (RUN), 63250, 25160 (COMMIT).
    private static void drawn() {
        RenamedCells x = Check.of(LATE + ";set 1 5;set 2 6");
        Check.script("drawn", x, "drawnCommits(970,0)=0 drawnCommits(970,1)=0 drawnCommits(970,2)=0 drawnCommits(970,3)=1"
                + " drawnValue(1,970,2)=0 drawnValue(1,970,3)=5 drawnValue(2,970,3)=0"
                + " drawnCommits(930,4)=0 drawnCommits(889,4)=1 drawnCommits(1973,4)=1 drawnCommits(1973,3)=0 entries=0 nextStep=0 size(11)=0");
        Check.script("bounds", x, "drawnCommits(-1,0)!2 drawnCommits(65537,0)!2 drawnCommits(65536,0)=0 trouble=0 drawnCommits(0,-1)!2"
                + " drawnCommits(0,301)!2 drawnCommits(0,300)=2 drawnValue(8,0,0)!1 drawnValue(-1,-1,-1)!1 drawnValue(7,-1,0)!2"
                + " drawnValue(7,65537,0)!2 drawnValue(7,0,301)!2 drawnValue(7,0,-1)!2 drawnValue(7,65536,300)=0 drawnValue(2,0,300)=6");
        Check.script("let go", Check.of(EARLY + ";set 1 5"), "drawnValue(1,970,1)=-2 drawnValue(1,970,2)=-2 drawnValue(1,970,3)=5 value(1)=0");
    }

    // Seed 0 becomes 74: a COMMIT.
    private static void drawnFromNow() {
        RenamedCells x = Check.of(LATE + ";set 1 5;set 2 6");
        Check.script("from now on", x, "fetch=0 run(0)=0 drawnCommits(0,1)=1 drawnValue(1,0,1)=5 value(1)=0 entries=1 size(8)=0 size(11)=2"
                + " commit=0 drawnCommits(0,1)=0 drawnValue(1,0,1)=5");
        Check.script("a trap isn't committed", Check.of(LATE + ";div 1 0 0"), "fetch=0 run(0)=0 drawnCommits(0,1)=0 drawnCommits(0,300)=0 size(10)=0 commit=-2 drawnCommits(970,3)=0");
    }
}
