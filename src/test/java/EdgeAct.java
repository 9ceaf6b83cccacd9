/** Term III from ACTS on, term IV and promises 43 to 52: acts, undoing, IMAGES, what is told. */
final class EdgeAct {
    private static final String LATE = "core cells 12 window 4 saves 2 share 2 late";
    private static final String TRAP = LATE + ";set 1 8;div 2 1 0;set 3 4";

    private EdgeAct() {
    }

    static void all() {
        fiveHundredAndTwelveCalls();
        acts();
        sixteenAreKept();
        threeImages();
        troubles();
        fetch();
        run();
        commit();
        resume();
        undo();
        image();
        back();
        led();
        sizeOfText();
        sizeOfState();
        trouble();
    }

    // 3 calls of feed and 1 of core, 169 times 3, and the last one; then 255 times 2 (a refusal is asked for), and two more.
    private static void fiveHundredAndTwelveCalls() {
        Edge.of("use", "An object is used for at most 512 calls after it has been made")
                .core("core cells 9 window 2 saves 0 share 1 late;skip 0 0 0 yes").times(169, "fetch=0 run(0)=0 commit=0")
                .calls("size(8)=169");
        Edge.of("use", "An object is used for at most 512 calls after it has been made").times(255, "undo!6")
                .calls("trouble=6 size(0)=0");
    }

    private static void acts() {
        Edge.of("III", "ACTS: FETCH, RUN, COMMIT, RESUME (a CORE that STOPS goes on at a STEP).").core(LATE + ";div 1 0 0;set 2 2")
                .calls("fetch=0 size(11)=1 run(0)=0 size(11)=2 commit=-2 size(11)=3 size(10)=1 resume(1)=1 size(11)=4 size(10)=0"
                        + " nextStep=1 fetch=1 run(0)=0 commit=1 value(2)=2 size(11)=7")
                .refused("fetch!6 run(0)!1 commit!6 resume(0)!5")
                .calls("image=0 size(11)=7 entries=0 cycles(9)=3 drawnCommits(970,300)=0 size(11)=7");
    }

    private static void sixteenAreKept() {
        Edge.of("III", "UNDO: the latest (16 are kept).").core(LATE + ";skip 0 0 0 yes").times(5, "fetch=0 run(0)=0 commit=0")
                .calls("size(11)=15").times(15, "undo=1").refused("undo!6").calls("size(8)=0 entries=0 nextStep=0")
                .times(5, "fetch=0 run(0)=0 commit=0").calls("fetch=0 size(11)=16").times(16, "undo=1").refused("undo!6")
                .calls("size(8)=0 entries=0")
                .times(6, "fetch=0 run(0)=0 commit=0").calls("size(11)=16").times(16, "undo=1").refused("undo!6")
                .calls("size(8)=0 entries=1 entry(0,4)=1 size(11)=0 commit=0 size(11)=1 undo=1 entries=1");
        Edge.of("III", "UNDO: the latest (16 are kept).").core(LATE + ";set 1 5;set 2 6")
                .calls("fetch=0 fetch=1 run(1)=0 undo=1 entry(1,4)=0 entry(0,4)=0 entries=2 undo=1 entries=1 nextStep=1 undo=1"
                        + " entries=0");
    }

    private static void threeImages() {
        Edge.of("III", "IMAGES: up to 3;").core(LATE + ";set 1 5").calls("image=0 image=1 image=2").refused("image!3")
                .calls("back(0)=1").refused("image!3").calls("fetch=0 undo=1").refused("image!3").told(LATE + ";set 1 5", 1)
                .calls("image=0");
        Edge.of("III", "gone back to one, nothing can be undone.").core(LATE + ";set 1 5;set 2 6")
                .calls("fetch=0 image=0 fetch=1 size(11)=2 back(0)=1 size(11)=0").refused("undo!6")
                .calls("fetch=1 size(11)=1 undo=1 entries=1").refused("undo!6");
        Edge.of("III", "gone back to one, nothing can be undone.").core(LATE + ";skip 0 0 0 yes")
                .times(6, "fetch=0 run(0)=0 commit=0").calls("image=0 back(0)=1 size(11)=0").refused("undo!6")
                .times(16, "fetch=0 undo=1").calls("size(8)=6").refused("undo!6");
    }

    private static void troubles() {
        Edge.of("IV", "TROUBLE of the latest call that may be refused (those of which a number is told here):")
                .calls("trouble=0 undo!6 trouble=6 trouble=6 fault=0 where=-1 size(0)=0 size(99)=-1 led(0)=throws"
                        + " feed(1,1,1,1,1)=20 trouble=6 entries!1 trouble=1 feed(1,1,1,1,1)=40 trouble=1 core(41)!2 trouble=2")
                .fed(EdgeText.times(43, "                    "))
                .calls("size(13)=900 feed(1,1,1,1,1)=-1 trouble=2 core(40)!4 trouble=4 feed(1,1,1,1,1)=20 trouble=4");
        Edge.of("IV", "TROUBLE of the latest call that may be refused (those of which a number is told here):")
                .core(LATE + ";set 1 5;set 2 6").calls("fetch=0 run(0)=0 undo=1 run(0)=0 core(-1)!2 led(0)=0 trouble=2 led(1)=throws"
                        + " trouble=2 size(0)=12 size(14)=-1 size(-1)=-1 trouble=2 fault=0 where=-1 trouble=2 feed(1,1,1,1,1)=20 trouble=2"
                        + " core(1)!4 fault=1 where=0 led(0)=0 where=0 size(13)=0 trouble=4 led(1)=throws where=0 feed(1,1,1,1,1)=20"
                        + " where=0 trouble=4 entries=1 trouble=0 where=-1 fault=1 led(0)=0 led(1)=throws size(14)=-1 trouble=0");
        String[] fine = {
            "plainSteps=1", "plainEnd=0", "plainAt(0,0)=0", "plainStep(0)=0", "plainMisses=0", "value(0)=0", "kept(0)=0",
            "mapped(0)=0", "letGo=0", "cell(0,0)=0", "free=3584", "ready=255",
            "entries=1", "entry(0,0)=0", "runnable=1", "nextStep=1", "fetchable=2", "commitable=2", "walked(0,0)=0",
            "saved(0,0)=-2", "gives(0)=0", "agrees=1", "cycles(9)=3", "commits(9)=1",
            "misses(9)=0", "crowd(9)=9", "cellsFor(3)=9", "cellsFor(2)=-2", "rate(9,0)=1", "rate(9,1)=3", "fits=1", "fitAt(0)=0",
            "could=0", "surely=0", "ask=-2", "askLeaves=-2", "judge=-2",
            "drawnCommits(0,0)=0", "drawnValue(0,0,0)=0", "run(0)=0", "undo=1", "image=0", "back(0)=1"
        };
        Edge zero = Edge.of("IV", "0 it wasn't;").core(LATE + ";set 1 5").calls("trouble=0 undo!6 fetch=0 trouble=0");
        for (String call : fine) {
            zero.calls("core(-1)!2 " + call + " trouble=0");
        }
        zero.calls("run(0)=0 core(-1)!2 commit=0 trouble=0").core(LATE + ";div 1 0 0")
                .calls("fetch=0 run(0)=0 undo=1 run(0)=0 core(-1)!2 commit=-2 trouble=0 core(-1)!2 resume(24)=1 trouble=0");
        Edge.of("IV", "1 there is none such;").calls("entries!1").core(LATE + ";set 1 5")
                .refused("value(8)!1 cell(12,0)!1 entry(0,0)!1 run(0)!1 back(0)!1 fitAt(1)!1 plainAt(8,0)!1");
        Edge.of("IV", "2 a number;").core(LATE + ";set 1 5")
                .refused("core(1)!2 plainAt(0,2)!2 plainStep(2)!2 cycles(8)!2 cellsFor(301)!2 rate(25,1)!2 drawnCommits(0,301)!2"
                        + " drawnValue(0,-1,0)!2 resume(25)!2");
        Edge.of("IV", "3 no room;").core("core cells 9 window 2 saves 0 share 1 late;set 1 5;set 2 6").calls("fetch=0")
                .refused("fetch!3").calls("image=0 image=1 image=2").refused("image!3");
        Edge.of("IV", "4 a FAULT;").core(LATE + ";set 1 5").calls("fetch=0 core(0)!4 trouble=4 size(0)=12 entries=1");
        Edge.of("IV", "5 not so;").core(LATE + ";set 1 5;add 1 1 1").refused("resume(0)!5").calls("fetch=0 fetch=1")
                .refused("run(1)!5 commit!5").core(LATE + ";div 1 0 0").calls("fetch=0 run(0)=0 commit=-2").refused("fetch!5");
        Edge.of("IV", "6 there is none.").refused("undo!6").core(LATE + ";set 1 5").refused("undo!6 commit!6").calls("fetch=0")
                .refused("fetch!6");
    }

    private static void fetch() {
        Edge.of(43, "FETCH: which STEP.").core(LATE + ";skip 0 0 2 yes;set 1 1;set 2 2")
                .calls("fetch=0 trouble=0 fetch=2 trouble=0 entries=2");
        Edge.of(43, "NONE: 1 (no CORE);").refused("fetch!1");
        Edge.of(43, "3 (the WINDOW is full; no CELL);").core("core cells 24 window 2 saves 0 share 1 late;set 1 1;set 2 2;set 3 3")
                .calls("fetch=0 fetch=1").refused("fetch!3").calls("run(0)=0 commit=0 fetch=2")
                .core("core cells 9 window 4 saves 0 share 1 late;set 1 1;set 2 2").calls("fetch=0").refused("fetch!3")
                .calls("run(0)=0").refused("fetch!3").calls("commit=0 fetch=1");
        Edge.of(43, "5 (it STOPS);").core(LATE + ";div 1 0 0").calls("fetch=0 run(0)=0 commit=-2").refused("fetch!5")
                .calls("resume(0)=1 fetch=0");
        Edge.of(43, "6 (no such STEP):").core(LATE + ";skip 0 0 24 yes").calls("fetch=0").refused("fetch!6").core(LATE + ";set 1 5")
                .calls("fetch=0").refused("fetch!6").calls("run(0)=0 commit=0").refused("fetch!6");
        Edge.of(43, "the first as fetchable() tells.").core("core cells 9 window 2 saves 0 share 1 late;set 1 1;skip 0 0 9 yes")
                .calls("fetch=0 fetch=1 free=0 fetchable=2").refused("fetch!6")
                .core("core cells 9 window 2 saves 0 share 1 late;div 1 0 0").calls("fetch=0 run(0)=0 commit=-2 fetchable=1")
                .refused("fetch!5").calls("resume(24)=1").refused("fetch!6");
    }

    private static void run() {
        Edge e = Edge.of(44, "RUN of the i-th: how many ENTRIES are taken out.")
                .core("core cells 24 window 12 saves 0 share 1 late;skip 0 0 0 no" + EdgeText.times(11, ";set 1 5"));
        e.calls("fetch=0 fetch=1 fetch=2 fetch=3 fetch=4 fetch=5 fetch=6 fetch=7 fetch=8 fetch=9 fetch=10 fetch=11 run(11)=0"
                        + " trouble=0 run(0)=11 trouble=0 entries=1");
        e.core(LATE + ";skip 0 0 9 no").calls("fetch=0 run(0)=0 nextStep=9 entries=1").core(LATE + ";skip 0 0 1 yes;div 1 0 0")
                .calls("fetch=0 fetch=1 run(1)=0 run(0)=0 entries=2");
        e.core(LATE + ";set 1 1;skip 0 0 9 no;set 2 2").calls("fetch=0 fetch=1 fetch=2 run(1)=1 entries=2 run(0)=0");
        Edge.of(44, "NONE: 1;").refused("run(0)!1 run(-1)!1").core(LATE + ";set 1 5").refused("run(0)!1").calls("fetch=0")
                .refused("run(1)!1 run(-1)!1 run(2147483647)!1 run(-2147483648)!1").calls("run(0)=0 commit=0").refused("run(0)!1");
        Edge.of(44, "5 (it is DONE, or can't).").core(LATE + ";set 1 5;add 2 1 1;move 3 1;div 4 0 0")
                .calls("fetch=0 fetch=1 fetch=2 fetch=3").refused("run(1)!5 run(2)!5").calls("run(0)=0 run(3)=0")
                .refused("run(0)!5 run(2)!5 run(3)!5").calls("run(1)=0").refused("run(1)!5");
    }

    private static void commit() {
        Edge.of(45, "COMMIT: which STEP;").core(LATE + ";skip 0 0 2 yes;set 1 1;set 2 2")
                .calls("fetch=0 fetch=2 run(0)=0 run(1)=0 commit=0 trouble=0 commit=2 trouble=0 size(8)=2");
        Edge.of(45, "-2 it TRAPPED.").core(TRAP)
                .calls("fetch=0 fetch=1 fetch=2 run(0)=0 run(1)=0 commit=0 commit=-2 trouble=0 size(8)=1 size(11)=7 undo=1"
                        + " entries=2 size(10)=0");
        Edge.of(45, "NONE: 1 (no CORE);").refused("commit!1");
        Edge.of(45, "5 (it can't);").core(LATE + ";set 1 5;set 2 6").calls("fetch=0 fetch=1 run(1)=0").refused("commit!5")
                .calls("run(0)=0 commit=0");
        Edge.of(45, "6 (no ENTRY).").core(LATE + ";set 1 5").refused("commit!6").calls("fetch=0 run(0)=0 commit=0")
                .refused("commit!6").core(LATE + ";div 1 0 0").calls("fetch=0 run(0)=0 commit=-2").refused("commit!6");
    }

    private static void resume() {
        Edge.of(46, "RESUME at a STEP (0 .. 24): true;").core(TRAP)
                .calls("fetch=0 fetch=1 run(0)=0 run(1)=0 commit=0 commit=-2 resume(0)=1 trouble=0 nextStep=0 size(10)=0"
                        + " fetchable=0 undo=1 size(10)=1 resume(24)=1 trouble=0 nextStep=24 fetchable=2 undo=1 resume(3)=1"
                        + " fetch!6 undo=1 resume(2)=1 fetch=2 run(0)=0 commit=2 value(3)=4 value(1)=8 size(8)=2");
        Edge.of(46, "false: 1 (no CORE);").refused("resume(0)!1 resume(-1)!1 resume(25)!1");
        Edge stopped = Edge.of(46, "2;").core(TRAP).refused("resume(-1)!2 resume(25)!2")
                .calls("fetch=0 fetch=1 run(0)=0 run(1)=0 commit=0 commit=-2");
        stopped.refused("resume(-1)!2 resume(25)!2 resume(2147483647)!2 resume(-2147483648)!2").calls("resume(24)=1");
        Edge.of(46, "5 (it doesn't STOP).").core(TRAP).refused("resume(0)!5 resume(24)!5")
                .calls("fetch=0 fetch=1 run(0)=0 run(1)=0 commit=0").refused("resume(1)!5").calls("commit=-2 resume(1)=1")
                .refused("resume(1)!5");
    }

    private static void undo() {
        Edge.of(47, "UNDO: true;").core("core cells 9 window 4 saves 1 share 1 early;set 1 5;skip 0 0 0 no;set 1 6;div 2 0 0")
                .calls("fetch=0 fetch=1 fetch=2 entry(2,1)=1 ready=253 letGo=2 undo=1 trouble=0 ready=255 letGo=2 free=2"
                        + " entries=2 nextStep=2 fetch=2 run(2)=0 cell(1,0)=6 undo=1 cell(1,0)=-2 entry(2,4)=0 run(1)=1 entries=2"
                        + " size(9)=0 undo=1 entries=3 size(9)=1 nextStep=3 saved(1,1)=8")
                .calls("run(0)=0 commit=0 kept(1)=8 size(8)=1 undo=1 kept(1)=1 size(8)=0 letGo=2 entries=3 size(11)=4");
        Edge.of(47, "UNDO: true;").core(LATE + ";set 1 5;move 2 1;add 3 1 0;sub 4 0 1")
                .calls("fetch=0 fetch=1 fetch=2 fetch=3 run(0)=0 commit=0 commit=1 entry(0,2)=8 entry(0,3)=0 entry(1,2)=0"
                        + " entry(1,3)=8 entry(0,6)=0 undo=1")
                .calls("entry(0,6)=1 entry(0,2)=8 entry(0,3)=-2 entry(1,6)=0 entry(1,2)=8 entry(1,3)=0 entry(2,2)=0 entry(2,3)=8"
                        + " undo=1 entry(0,6)=0 entry(0,2)=-2 entry(0,3)=-2 entry(1,6)=1 entry(1,2)=8 entry(2,2)=8 entry(2,3)=0"
                        + " entry(3,2)=0 entry(3,3)=8");
        Edge.of(47, "UNDO: true;").core(LATE + ";div 1 0 0")
                .calls("fetch=0 run(0)=0 commit=-2 resume(24)=1 undo=1 size(10)=1 nextStep=0 agrees=1 undo=1 size(10)=0 entries=1"
                        + " nextStep=1 undo=1 entry(0,5)=0 entry(0,4)=0 undo=1 entries=0");
        Edge.of(47, "UNDO: true;").core(LATE + ";set 1 5")
                .calls("fetch=0 feed(0,0,0,0,0)=20 image=0 undo=1 size(13)=20 size(12)=1 back(0)=1 entries=1");
        Edge.of(47, "false: 6.").refused("undo!6").core(LATE + ";set 1 5").refused("undo!6").calls("fetch=0 undo=1")
                .refused("undo!6").calls("fetch=0 image=0 back(0)=1").refused("undo!6");
    }

    private static void image() {
        Edge.of(48, "An IMAGE: its number.").core(LATE + ";set 1 5")
                .calls("image=0 trouble=0 size(12)=1 image=1 size(12)=2 image=2 size(12)=3 size(11)=0 entries=0");
        Edge.of(48, "NONE: 1 (no CORE); 3.").refused("image!1").core(LATE + ";set 1 5").calls("image=0 image=1 image=2")
                .refused("image!3").calls("size(12)=3");
    }

    private static void back() {
        Edge.of(49, "All is as by an IMAGE")
                .core("core cells 9 window 4 saves 1 share 1 early;set 1 5;skip 0 0 0 no;set 1 6;div 2 0 0")
                .calls("image=0 fetch=0 fetch=1 fetch=2 run(2)=0 image=1 run(1)=1 run(0)=0 commit=0 image=2")
                .calls("back(1)=1 trouble=0 entries=3 entry(2,1)=1 cell(1,0)=6 cell(8,0)=-2 letGo=2 size(8)=0 size(9)=1"
                        + " nextStep=3 saved(1,1)=8 kept(1)=1 back(0)=1 entries=0 ready=255 free=256 nextStep=0 letGo=0 back(2)=1"
                        + " size(8)=1 kept(1)=8 entries=1 nextStep=0");
        Edge.of(49, "All is as by an IMAGE").core(LATE + ";div 1 0 0")
                .calls("fetch=0 run(0)=0 commit=-2 image=0 resume(24)=1 image=1 back(0)=1 size(10)=1 nextStep=0 agrees=1"
                        + " back(1)=1 size(10)=0 nextStep=24 agrees=0");
        Edge.of(49, "(all IMAGES stay): true;").core(LATE + ";set 1 5")
                .calls("image=0 fetch=0 image=1 run(0)=0 image=2 back(0)=1 size(12)=3 back(2)=1 entry(0,4)=1 back(1)=1"
                        + " entry(0,4)=0 run(0)=0 commit=0 back(1)=1 entry(0,4)=0 size(12)=3 back(0)=1 entries=0 back(0)=1"
                        + " entries=0");
        Edge.of(49, "false: 1.").refused("back(0)!1 back(-1)!1").core(LATE + ";set 1 5").calls("fetch=0").refused("back(0)!1")
                .calls("image=0").refused("back(1)!1 back(-1)!1 back(2147483647)!1 back(-2147483648)!1").calls("image=1 image=2")
                .refused("back(3)!1").calls("size(11)=1 undo=1");
    }

    private static void led() {
        Edge.of(50, "The i-th ENTRY, from the oldest on, that is DONE.").core(LATE + ";set 1 5;move 2 0;set 3 7;div 4 0 0")
                .calls("fetch=0 fetch=1 fetch=2 fetch=3 led(0)=1 run(3)=0 led(0)=1 led(1)=3 run(0)=0 led(0)=0 led(1)=1 led(2)=3"
                        + " commit=0 led(0)=0 led(1)=2").core("core cells 9 window 12 saves 0 share 1 late;skip 0 0 0 yes")
                .times(12, "fetch=0")
                .calls("run(11)=0 led(0)=11 run(0)=0 run(1)=0 run(2)=0 run(3)=0 run(4)=0 run(5)=0 run(6)=0 run(7)=0 run(8)=0"
                        + " run(9)=0 run(10)=0 led(11)=11 led(12)=throws led(0)=0");
        Edge.of(50, "NoSuchElementException if there is none such.").calls("led(0)=throws led(-1)=throws")
                .core(LATE + ";set 1 5;set 2 6")
                .calls("led(0)=throws fetch=0 fetch=1 led(0)=throws run(1)=0 led(0)=1 led(1)=throws led(-1)=throws"
                        + " led(2147483647)=throws led(-2147483648)=throws entries=2 undo=1 led(0)=throws trouble=0");
    }

    private static void sizeOfText() {
        Edge.of(51, "0 cells, 1 window, 2 saves, 3 share, 4 1 if early, 5 STEPS, 6 unsure ones, 7 got,")
                .core("core cells 24 window 12 saves 4 share 3 early" + EdgeText.times(24,
                        ";set 1 5") + ";unsure 0 1;unsure 1 1;unsure 2 1;unsure 3 1;got 0 0;got 1 0;got 2 0;got 3 0;got 4 0;got 5"
                        + " 0")
                .calls("size(0)=24 size(1)=12 size(2)=4 size(3)=3 size(4)=1 size(5)=24 size(6)=4 size(7)=6 trouble=0")
                .core("core cells 9 window 2 saves 0 share 1 late;set 1 5")
                .calls("size(0)=9 size(1)=2 size(2)=0 size(3)=1 size(4)=0 size(5)=1 size(6)=0 size(7)=0");
        Edge.of(51, "NONE for others;").calls("size(-1)=-1 size(14)=-1 size(2147483647)=-1 size(-2147483648)=-1 trouble=0")
                .core(LATE + ";set 1 5").calls("undo!6 size(-1)=-1 size(14)=-1 size(2147483647)=-1 size(-2147483648)=-1 trouble=6");
        Edge none = Edge.of(51, "0 for what there isn't.");
        for (int what = 0; what <= 13; what++) {
            none.calls("size(" + what + ")=0");
        }
        none.fed("zzz").calls("size(13)=20 size(12)=0 size(0)=0 core(3)!4 size(5)=0 size(13)=0");
    }

    private static void sizeOfState() {
        Edge.of(51, "8 STEPS COMMITTED since the text was told (undone ones not),").core(TRAP)
                .calls("size(8)=0 fetch=0 run(0)=0 size(8)=0 commit=0 size(8)=1 undo=1 size(8)=0 commit=0 fetch=1 run(0)=0"
                        + " commit=-2 size(8)=1 resume(0)=1 fetch=0 run(0)=0 commit=0 size(8)=2").told(TRAP, 3).calls("size(8)=0");
        Edge.of(51, "9 ENTRIES with a SAVE,").core("core cells 9 window 12 saves 4 share 1 late;skip 0 0 0 yes")
                .calls("size(9)=0 fetch=0 size(9)=1 fetch=0 fetch=0 fetch=0 size(9)=4 fetch=0 size(9)=4 run(0)=0 size(9)=3"
                        + " fetch=0 size(9)=4 run(4)=0 size(9)=4");
        Edge.of(51, "10 1 if it STOPS,").core(LATE + ";div 1 0 0")
                .calls("size(10)=0 fetch=0 run(0)=0 size(10)=0 commit=-2 size(10)=1 resume(0)=1 size(10)=0 undo=1 size(10)=1"
                        + " undo=1 size(10)=0");
        Edge.of(51, "11 ACTS that can be undone,").core(LATE + ";skip 0 0 0 yes").calls("size(11)=0")
                .times(4, "fetch=0 run(0)=0 commit=0")
                .calls("size(11)=12 fetch=0 run(0)=0 commit=0 fetch=0 size(11)=16 run(0)=0 size(11)=16 undo=1 size(11)=15"
                        + " commit!5 size(11)=15 image=0 size(11)=15 back(0)=1 size(11)=0");
        Edge.of(51, "12 IMAGES,").core(LATE + ";set 1 5")
                .calls("size(12)=0 image=0 size(12)=1 image=1 image=2 size(12)=3 image!3 size(12)=3 back(0)=1 size(12)=3 fetch=0"
                        + " undo=1 size(12)=3");
        Edge.of(51, "13 bytes of THE TAPE.").core(LATE + ";set 1 5")
                .calls("size(13)=0 feed(0,0,0,0,0)=20 size(13)=20 image=0 feed(0,0,0,0,0)=40 back(0)=1 size(13)=40 core(41)!2"
                        + " size(13)=40 core(0)!4 size(13)=0").fed(EdgeText
                .times(45, "                    ")).calls("size(13)=900 feed(0,0,0,0,0)=-1 size(13)=900");
    }

    // What a call that is refused tells stands above, call by call; here that it is told until the next such call.
    private static void trouble() {
        Edge.of(52, "TROUBLE.")
                .calls("trouble=0 entries!1 trouble=1 trouble=1 undo!6 trouble=6 core(1)!2 trouble=2 core(0)!4 trouble=4")
                .core("core cells 9 window 2 saves 0 share 1 late;set 1 5;set 2 6")
                .calls("trouble=0 resume(0)!5 trouble=5 fetch=0 trouble=0 fetch!3 trouble=3 size(0)=9 trouble=3 entries=1"
                        + " trouble=0");
    }
}
