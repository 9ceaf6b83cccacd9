/** Promises 6 to 27: the plain machine, registers and cells, the window, maps. */
public final class StateTest {
    private static final String HEAD = "core cells 12 window 8 saves 1 share 2 late";

    private StateTest() {
    }

    public static void main(String[] args) {
        plainEnds();
        plainSteps();
        plainReckons();
        plainMisses();
        window();
        trapsAndStops();
        fullWindow();
        lettingGo();
        lettingGoWaits();
        takenWhileLetGo();
        merging();
        sureOnes();
        gives();
        agrees();
        Check.end("StateTest");
    }

    // 3 STEPS ahead of the loop, 3 for each time but the last, 2 for that: 3 + 3 (n - 1) + 2.
    private static String countDown(int n, String more) {
        return HEAD + ";set 1 " + n + ";set 2 1;set 3 9;sub 1 1 2;skip 1 0 6 no;skip 0 0 3 yes" + more;
    }

    private static void plainEnds() {
        Check.script("ends at 200", Check.of(countDown(66, "")),
                "plainSteps=200 plainEnd=0 plainMisses=1 plainStep(200)=6 plainStep(201)!2 plainAt(1,200)=0 plainAt(1,197)=1");
        Check.script("ends ahead of 200", Check.of(countDown(65, "")), "plainSteps=197 plainEnd=0 plainStep(197)=6 plainStep(198)!2");
        Check.script("goes on at 200", Check.of(countDown(67, "")), "plainSteps=200 plainEnd=2 plainMisses=0 plainStep(200)=5");
        Check.script("traps", Check.of(countDown(65, ";div 4 1 0")), "plainSteps=197 plainEnd=1 plainStep(197)=6 plainStep(198)!2");
        Check.script("would trap behind 200", Check.of(countDown(66, ";div 4 1 0")), "plainSteps=200 plainEnd=2 plainStep(200)=6");
        Check.script("traps at once", Check.of(HEAD + ";div 1 0 0"),
                "plainSteps=0 plainEnd=1 plainStep(0)=0 plainStep(1)!2 plainAt(1,0)=0 plainAt(1,1)!2 plainMisses=0");
        Check.script("ends at once", Check.of(HEAD + ";set 1 1"), "plainSteps=1 plainEnd=0");
    }

    private static void plainSteps() {
        RenamedCells x = Check.of(HEAD + ";set 1 5;skip 1 0 4 no;skip 1 1 5 no;set 2 2;set 3 3;set 4 4");
        Check.script("path", x, "plainSteps=4 plainStep(0)=0 plainStep(1)=1 plainStep(2)=2 plainStep(3)=5 plainStep(4)=6");
        Check.script("path", x, "plainStep(-1)!2 plainStep(5)!2 plainMisses=1 plainAt(4,3)=0 plainAt(4,4)=4 plainAt(2,4)=0");
        Check.script("path", x, "plainAt(8,0)!1 plainAt(-1,0)!1 plainAt(8,99)!1 plainAt(7,-1)!2 plainAt(7,5)!2 plainAt(7,4)=0");
    }

    private static void plainReckons() {
        RenamedCells x = Check.of(HEAD + ";set 1 9999;set 2 7;add 3 1 2;sub 4 2 1;div 5 1 2;move 6 5;div 2 2 1;sub 7 1 1;add 1 1 1");
        Check.script("numbers", x, "plainSteps=9 plainAt(3,3)=6 plainAt(4,4)=8 plainAt(5,5)=1428 plainAt(6,6)=1428 plainAt(2,7)=0");
        Check.script("numbers", x, "plainAt(7,8)=0 plainAt(1,8)=9999 plainAt(1,9)=9998 plainAt(2,6)=7 plainAt(0,9)=0");
    }

    private static void plainMisses() {
        Check.script("either way the same STEP", Check.of(HEAD + ";skip 0 0 1 no;set 1 1;skip 0 1 3 yes"), "plainMisses=0");
        Check.script("guessed yes, isn't so", Check.of(HEAD + ";set 1 1;skip 0 1 0 yes"), "plainMisses=1 plainEnd=0");
        Check.script("guessed no, is so", Check.of(HEAD + ";skip 0 0 2 no;set 1 1"), "plainMisses=1 plainSteps=1");
        Check.script("skipped, not met", Check.of(HEAD + ";skip 0 0 2 yes;skip 0 0 0 no"), "plainMisses=0 plainSteps=1");
    }

    private static void window() {
        RenamedCells x = Check.of(HEAD + ";set 1 5;move 2 1;move 3 1;skip 1 1 5 yes;set 4 9;skip 2 3 0 no;div 5 1 0;sub 6 0 1");
        Check.script("at first", x, "entries=0 free=3840 ready=255 letGo=0 runnable=0 nextStep=0 fetchable=0 commitable=1"
                + " kept(0)=0 kept(7)=7 mapped(7)=7 value(7)=0 kept(8)!1 mapped(-1)!1 value(8)!1 kept(-1)!1 mapped(8)!1 value(-1)!1"
                + " cell(7,0)=0 cell(7,1)=1 cell(7,2)=0 cell(8,0)=-2 cell(8,1)=0 cell(11,0)=-2 cell(12,0)!1 cell(-1,0)!1"
                + " cell(0,3)!1 cell(0,-1)!1 entry(0,0)!1 walked(0,0)!1 saved(0,0)!1 gives(0)!1 run(0)!1 commit!6 agrees=1");
        Check.script("a set", x, "fetch=0 entry(0,0)=0 entry(0,1)=8 entry(0,2)=-2 entry(0,3)=-2 entry(0,4)=0 entry(0,5)=0"
                + " entry(0,6)=0 entry(0,7)=0 entry(0,8)=1 entry(0,9)!1 entry(0,-1)!1 entry(-1,0)!1 entry(1,0)!1"
                + " mapped(1)=8 kept(1)=1 commitable=2 commit!5 runnable=1 entries=1 nextStep=1");
        Check.script("a move that is merged", x, "fetch=1 entry(1,1)=8 entry(1,2)=8 entry(1,3)=-2 entry(1,4)=1 entry(1,6)=1"
                + " cell(8,1)=2 cell(8,2)=0 mapped(2)=8 free=3584 run(1)!5");
        Check.script("a move that isn't", x, "fetch=2 entry(2,1)=9 entry(2,2)=8 entry(2,4)=0 entry(2,6)=0 cell(8,2)=1");
        Check.script("a skip with a save", x, "fetch=3 entry(3,1)=-2 entry(3,2)=8 entry(3,3)=8 entry(3,7)=1 entry(3,4)=0 nextStep=5");
        Check.script("a skip without", x, "fetch=5 entry(4,0)=5 entry(4,2)=8 entry(4,3)=9 entry(4,7)=0 size(9)=1 nextStep=6");
        Check.script("more", x, "fetch=6 fetch=7 fetchable=2 fetch!6 entries=7 free=0 ready=255 runnable=1 entry(5,1)=10 entry(6,1)=11");
        Check.script("who holds, who waits", x, "cell(8,0)=-2 cell(8,1)=2 cell(8,2)=5 cell(0,0)=0 cell(0,1)=1 cell(0,2)=2 cell(9,2)=1");
        Check.script("the set runs", x, "run(0)=0 cell(8,0)=5 ready=511 runnable=108 run(0)!5 run(4)!5 run(7)!1 run(-1)!1 commitable=0");
        Check.script("sure ones", x, "entry(0,8)=1 entry(2,8)=1 entry(3,8)=0 entry(4,8)=0 entry(6,8)=0");
        Check.script("a div by 0", x, "run(5)=0 entry(5,5)=1 entry(5,4)=1 cell(10,0)=-2 ready=511 run(5)!5");
        Check.script("maps", x, "saved(3,1)=8 saved(3,2)=8 saved(3,3)=9 saved(3,0)=0 saved(4,1)=-2 saved(3,8)!1 saved(3,-1)!1 saved(7,0)!1"
                + " walked(0,2)=2 walked(0,1)=8 walked(1,2)=8 walked(1,3)=3 walked(2,3)=9 walked(5,6)=6 walked(6,6)=11 walked(6,5)=10"
                + " walked(7,0)!1 walked(-1,0)!1 walked(0,8)!1 walked(0,-1)!1");
        Check.script("led", x, "led(0)=0 led(1)=1 led(2)=5 led(3)=throws led(-1)=throws");
        Check.script("a skip as guessed", x, "run(3)=0 entry(3,4)=1 entry(3,7)=0 saved(3,1)=-2 size(9)=0 nextStep=8 entries=7 entry(3,8)=1 entry(4,8)=0");
        Check.script("what taking out gives", x, "gives(6)=0 gives(5)=1 gives(4)=2 gives(2)=2 gives(1)=3 gives(0)=3 gives(7)!1 gives(-1)!1");
        Check.script("a miss", x, "run(2)=0 cell(9,0)=5 run(4)=2 nextStep=0 entries=5 free=3072 ready=1023 led(4)=4 led(5)=throws entry(4,8)=1");
        Check.script("commits", x, "commit=0 kept(1)=8 value(1)=5 free=3074 cell(8,1)=2 commit=1 kept(2)=8 free=3078 cell(8,1)=2 commit=2"
                + " kept(3)=9 free=3086 commit=3 commit=5 entries=0 size(8)=5 agrees=1 mapped(3)=9 value(3)=5 commit!6 commitable=1");
        Check.script("a cell again", x, "fetch=0 entry(0,1)=1 ready=1021 cell(1,0)=-2 undo=1 ready=1023 cell(1,0)=0 entries=0");
        Check.script("plain", x, "plainSteps=200 plainEnd=2 plainMisses=40 plainStep(4)=5 plainStep(5)=0 plainStep(200)=0 plainAt(3,2)=0 plainAt(3,3)=5");
    }

    private static void trapsAndStops() {
        RenamedCells x = Check.of("core cells 9 window 3 saves 0 share 1 late;set 1 8;div 2 1 0;set 3 4;div 4 1 1");
        Check.script("no cell", x, "fetch=0 free=0 fetchable=4 fetch!3 run(0)=0 commit=0 free=2 value(1)=8");
        Check.script("stops", x, "fetch=1 entry(0,1)=1 entry(0,2)=8 entry(0,3)=0 run(0)=0 entry(0,5)=1 commitable=0 commit=-2 trouble=0"
                + " size(10)=1 size(8)=1 nextStep=1 entries=0 fetchable=1 free=2 mapped(2)=2 kept(2)=2 agrees=1 fetch!5 commit!6");
        RenamedCells y = Check.of("core cells 12 window 3 saves 0 share 1 late;div 2 1 0;set 3 4;set 3 5");
        Check.script("all are taken out", y, "fetch=0 fetch=1 fetch=2 nextStep=3 run(1)=0 run(0)=0 commit=-2 entries=0 nextStep=0 free=3840 value(3)=0 kept(3)=3");
    }

    private static void fullWindow() {
        RenamedCells x = Check.of("core cells 9 window 2 saves 0 share 1 late;skip 0 1 0 no;set 1 1;set 2 1");
        Check.script("full, though no cell is free either", x, "fetch=0 fetch=1 free=0 fetchable=3 fetch!3 run(0)=1 nextStep=0 fetchable=0");
        RenamedCells y = Check.of("core cells 9 window 2 saves 0 share 1 late;set 1 1;skip 0 0 4 yes");
        Check.script("a skip needs no cell", y, "fetch=0 free=0 fetchable=0 fetch=1 fetchable=2 nextStep=4 fetch!6");
        RenamedCells z = Check.of("core cells 9 window 3 saves 0 share 2 late;set 1 1;move 2 0;move 3 0");
        Check.script("a merged move needs none", z, "fetch=0 free=0 fetchable=0 fetch=1 entry(1,6)=1 cell(0,1)=2 fetchable=4 fetch!3");
    }

    private static void lettingGo() {
        RenamedCells x = Check.of("core cells 10 window 4 saves 0 share 1 early;set 1 5;set 1 6;add 2 1 1");
        Check.script("early", x, "letGo=0 fetch=0 letGo=2 free=514 value(1)=-2 kept(1)=1 mapped(1)=8 cell(1,1)=0 cell(1,0)=0 ready=255");
        Check.script("taken", x, "fetch=1 entry(1,1)=1 letGo=2 cell(1,1)=1 free=512 value(1)=-2 kept(1)=1 ready=253");
        Check.script("kept anew", x, "run(0)=0 commit=0 kept(1)=8 letGo=2 value(1)=-2 free=768 run(0)=0 commit=1 kept(1)=1 letGo=0 value(1)=6 free=768 agrees=1");
        RenamedCells y = Check.of("core cells 10 window 4 saves 0 share 1 late;set 1 5;set 1 6;add 2 1 1");
        Check.script("late", y, "fetch=0 letGo=0 free=512 value(1)=0 fetch=1 entry(1,1)=9 fetch!3");
    }

    private static void lettingGoWaits() {
        RenamedCells x = Check.of("core cells 12 window 5 saves 0 share 1 early;add 2 1 1;set 1 5;set 2 3");
        Check.script("for those that read it", x, "fetch=0 letGo=4 fetch=1 entry(1,1)=2 letGo=4 cell(1,2)=1 cell(1,1)=1 run(0)=0 letGo=6 cell(1,1)=0 cell(1,2)=0");
        RenamedCells y = Check.of("core cells 12 window 5 saves 0 share 1 early;skip 0 0 1 no;set 1 5");
        Check.script("for a skip", y, "fetch=0 fetch=1 letGo=0 run(1)=0 letGo=0 run(0)=0 letGo=2 value(1)=-2");
        RenamedCells z = Check.of("core cells 12 window 5 saves 0 share 1 early;set 3 1;div 2 0 3;set 1 5");
        Check.script("for a div", z, "fetch=0 letGo=8 fetch=1 fetch=2 letGo=8 run(0)=0 letGo=8 run(2)=0 letGo=8 run(1)=0 letGo=14");
        RenamedCells t = Check.of("core cells 12 window 5 saves 0 share 1 early;div 2 0 3;set 1 5");
        Check.script("not behind a trap", t, "fetch=0 fetch=1 run(0)=0 letGo=0 entry(0,8)=0 entry(1,8)=0 commit=-2 letGo=0");
        RenamedCells m = Check.of("core cells 12 window 5 saves 0 share 2 early;move 2 1;set 1 5");
        Check.script("for those that share it", m, "fetch=0 entry(0,6)=1 letGo=4 fetch=1 entry(1,1)=2 letGo=4 cell(1,1)=2 commit=0 kept(2)=1 letGo=2 cell(1,1)=1 value(2)=0 value(1)=-2");
        RenamedCells s = Check.of("core cells 12 window 5 saves 0 share 2 early;move 1 1;set 2 3");
        Check.script("not by the same cell", s, "fetch=0 entry(0,6)=1 entry(0,1)=1 letGo=0 cell(1,1)=2 commit=0 kept(1)=1 letGo=0 cell(1,1)=1");
    }

    private static void takenWhileLetGo() {
        RenamedCells x = Check.of("core cells 9 window 6 saves 0 share 1 early;set 1 5;skip 1 0 0 yes;set 2 7;set 3 1");
        Check.script("a guess", x, "fetch=0 letGo=2 free=2 fetch=1 nextStep=0 fetch=0 entry(2,1)=1 letGo=2 free=0 ready=253 fetchable=0");
        Check.script("still let go behind a miss", x, "run(0)=0 run(1)=1 entries=2 nextStep=2 letGo=2 free=2 value(1)=-2 kept(1)=1 ready=509"
                + " fetch=2 entry(2,1)=1 letGo=6 free=4 fetch=3 entry(3,1)=2 letGo=14 free=8");
        Check.script("till another is kept", x, "commit=0 kept(1)=8 letGo=12 value(1)=5 commit=1 run(0)=0 commit=2 kept(2)=1 letGo=8 value(2)=7"
                + " run(0)=0 commit=3 kept(3)=2 letGo=0 value(3)=1 free=8 agrees=1");
    }

    private static void merging() {
        RenamedCells x = Check.of("core cells 9 window 6 saves 0 share 4 late;move 1 0;move 2 1;move 3 0;move 4 0");
        Check.script("up to share", x, "fetch=0 entry(0,1)=0 cell(0,1)=2 fetch=1 entry(1,1)=0 entry(1,2)=0 cell(0,1)=3 fetch=2 entry(2,6)=1 cell(0,1)=4"
                + " fetch=3 entry(3,6)=0 entry(3,1)=8 led(2)=2 led(3)=throws commit=0 commit=1 commit=2 cell(0,1)=4 kept(3)=0 free=14 commit!5 run(0)=0 commit=3 agrees=1");
        RenamedCells y = Check.of("core cells 12 window 6 saves 0 share 1 late;move 1 0;set 2 2");
        Check.script("share 1", y, "fetch=0 entry(0,6)=0 entry(0,4)=0 entry(0,1)=8 run(0)=0 cell(8,0)=0");
        RenamedCells z = Check.of("core cells 12 window 6 saves 0 share 2 late;set 1 7;move 2 1");
        Check.script("a cell that isn't ready", z, "fetch=0 fetch=1 entry(1,6)=1 entry(1,4)=1 cell(8,0)=-2 runnable=1 run(0)=0 commit=0 commitable=0 commit=1 value(2)=7");
    }

    private static void sureOnes() {
        RenamedCells x = Check.of("core cells 24 window 8 saves 1 share 2 late;set 3 2;div 1 3 3;skip 0 0 3 yes;set 2 2;div 4 3 0;set 5 5");
        Check.script("sure", x, "fetch=0 fetch=1 fetch=2 fetch=3 fetch=4 fetch=5 entry(0,8)=1 entry(1,8)=0 entry(5,8)=0 run(2)=0 entry(2,8)=0"
                + " run(0)=0 run(1)=0 entry(1,8)=1 entry(2,8)=1 entry(3,8)=1 entry(4,8)=0 run(4)=0 entry(4,5)=1 entry(4,8)=0 entry(5,8)=0 entry(3,8)=1");
    }

    private static void gives() {
        RenamedCells x = Check.of("core cells 10 window 4 saves 0 share 2 early;set 2 1;move 1 3");
        Check.script("below 0", x, "fetch=0 free=516 fetch=1 entry(1,6)=1 letGo=6 free=518 gives(0)=-1 gives(1)=0");
        RenamedCells y = Check.of("core cells 10 window 4 saves 0 share 1 early;set 2 1;set 1 3");
        Check.script("those taken stay let go", y, "fetch=0 free=516 fetch=1 entry(1,1)=2 free=514 gives(0)=0 gives(1)=0");
        RenamedCells z = Check.of("core cells 12 window 4 saves 0 share 1 early;set 1 5;skip 0 0 4 no;add 2 1 1;set 3 3");
        Check.script("more", z, "fetch=0 fetch=1 fetch=2 fetch=3 free=3072 gives(0)=2 gives(1)=2 gives(2)=1 gives(3)=0");
    }

    private static void agrees() {
        String moves = "core cells 9 window 2 saves 0 share 4 late";
        for (int k = 0; k < 23; k++) {
            moves += ";move 1 0";
        }
        RenamedCells x = Check.of(moves + ";skip 0 0 0 yes");
        for (int k = 0; k < 201; k++) {
            boolean skip = k % 24 == 23;
            Check.script("commit " + k, x, skip ? "fetch=23 run(0)=0 commit=23" : "fetch=" + k % 24 + " commit=" + k % 24);
            if (k >= 198) {
                Check.script("behind " + (k + 1), x, k < 200 ? "agrees=1" : "agrees=0");
            }
        }
        Check.script("200 are undone to", x, "size(8)=201 undo=1 size(8)=200 agrees=1");
    }
}
