/** Promises 11 to 27: registers, CELLS, the WINDOW, MAPS. */
final class EdgeLook {
    private static final String LATE = "core cells 12 window 6 saves 1 share 2 late";
    private static final String EARLY = "core cells 12 window 6 saves 1 share 2 early";
    private static final String LOWEST = "(-2147483648";
    private static final String HIGHEST = "(2147483647";

    private EdgeLook() {
    }

    static void all() {
        value();
        kept();
        mapped();
        letGo();
        cell();
        free();
        ready();
        entries();
        entry();
        runnable();
        nextStep();
        fetchable();
        commitable();
        walked();
        saved();
        gives();
        agrees();
    }

    private static void registersOnly(int promise, String quote, String call) {
        Edge.of(promise, quote).refused(call + "(0)!1 " + call + "(-1)!1").core(LATE + ";set 1 5")
                .refused(call + "(-1)!1 " + call + "(8)!1 " + call + LOWEST + ")!1 " + call + HIGHEST + ")!1");
    }

    private static void value() {
        Edge.of(11, "A register as KEPT: its value;").core(LATE + ";set 0 9999;set 7 1")
                .calls("value(0)=0 value(7)=0 fetch=0 run(0)=0 value(0)=0 commit=0 value(0)=9999 trouble=0 fetch=1 run(0)=0"
                        + " value(7)=0 commit=1 value(7)=1");
        Edge.of(11, "-2 it is LET GO.").core(EARLY + ";set 0 9999;set 7 1")
                .calls("value(0)=0 fetch=0 value(0)=-2 trouble=0 value(7)=0 fetch=1 value(7)=-2 run(0)=0 run(1)=0 value(0)=-2"
                        + " commit=0 value(0)=9999 value(7)=-2 commit=1 value(7)=1");
        registersOnly(11, "NONE: 1.", "value");
    }

    private static void kept() {
        Edge.of(12, "Its KEPT CELL.").core(EARLY + ";set 0 5;set 7 5")
                .calls("kept(0)=0 kept(7)=7 trouble=0 fetch=0 kept(0)=0 fetch=1 entry(1,1)=0 kept(0)=0 kept(7)=7 run(0)=0"
                        + " commit=0 kept(0)=8 run(0)=0 commit=1 kept(7)=0");
        registersOnly(12, "NONE: 1.", "kept");
    }

    private static void mapped() {
        Edge.of(13, "Its CELL by the MAP.").core("core cells 24 window 12 saves 0 share 1 late;set 0 5;set 7 5;set 7 6")
                .calls("mapped(0)=0 mapped(7)=7 trouble=0 fetch=0 mapped(0)=8 fetch=1 fetch=2 mapped(7)=10 mapped(0)=8"
                        + " mapped(6)=6");
        registersOnly(13, "NONE: 1.", "mapped");
    }

    private static void letGo() {
        Edge.of(14, "Registers that are LET GO, as bits.")
                .core("core cells 24 window 12 saves 0 share 1 early;set 0 1;set 7 1;set 1 1;set 2 1;set 3 1;set 4 1;set 5 1;set"
                        + " 6 1")
                .calls("letGo=0 fetch=0 letGo=1 fetch=1 letGo=129 fetch=2 fetch=3 fetch=4 fetch=5 fetch=6 fetch=7 letGo=255"
                        + " trouble=0 value(0)=-2 value(7)=-2 agrees=1");
        Edge.of(14, "NONE: 1 (no CORE).").refused("letGo!1");
    }

    private static void cell() {
        Edge.of(15, "Of a CELL 0 its value (-2 not READY),").core(LATE + ";set 1 9999")
                .calls("cell(0,0)=0 cell(11,0)=-2 trouble=0 fetch=0 cell(8,0)=-2 run(0)=0 cell(8,0)=9999 commit=0 cell(1,0)=0"
                        + " cell(8,0)=9999");
        Edge.of(15, "1 HOLDERS,").core("core cells 9 window 6 saves 0 share 4 late;move 1 0;move 2 0;move 3 0")
                .calls("cell(0,1)=1 cell(8,1)=0 fetch=0 fetch=1 fetch=2 cell(0,1)=4 commit=0 cell(0,1)=4 cell(1,1)=0 trouble=0");
        Edge.of(15, "2 how many ENTRIES read it (once or twice) that aren't DONE.")
                .core("core cells 24 window 6 saves 1 share 2 late;add 1 2 2;sub 3 2 4;skip 4 2 3 yes;move 5 2;move 6 2;div 7 4 2")
                .calls("cell(2,2)=0 fetch=0 cell(2,2)=1 fetch=1 cell(2,2)=2 fetch=2 cell(2,2)=3 fetch=3 entry(3,6)=1 cell(2,2)=3"
                        + " fetch=4 entry(4,6)=0 cell(2,2)=4 fetch=5 cell(2,2)=5 cell(4,2)=3"
                        + " run(0)=0 cell(2,2)=4 run(5)=0 cell(2,2)=3 cell(4,2)=2 run(1)=0 run(2)=0 run(4)=0 cell(2,2)=0"
                                + " cell(4,2)=0 trouble=0");
        Edge.of(15, "NONE: 1.").refused("cell(0,0)!1").core(LATE + ";set 1 5")
                .refused("cell(-1,0)!1 cell(12,0)!1 cell(0,-1)!1 cell(0,3)!1 cell(12,3)!1 cell(2147483647,1)!1"
                        + " cell(-2147483648,1)!1 cell(0,2147483647)!1 cell(0,-2147483648)!1")
                .calls("cell(11,2)=0 trouble=0").core("core cells 9 window 6 saves 0 share 4 late;set 1 5")
                .refused("cell(9,0)!1 cell(9,2)!1").core("core cells 24 window 6 saves 0 share 4 late;set 1 5")
                .refused("cell(24,1)!1").calls("cell(23,1)=0");
    }

    private static void free() {
        Edge.of(16, "CELLS that are FREE, as bits.").core("core cells 24 window 6 saves 0 share 1 late;set 1 5")
                .calls("free=16776960 fetch=0 free=16776704 run(0)=0 commit=0 free=16776706 trouble=0")
                .core("core cells 9 window 6 saves 0 share 1 late;set 1 5")
                .calls("free=256 fetch=0 free=0 trouble=0 run(0)=0 commit=0 free=2")
                .core("core cells 9 window 6 saves 0 share 1 early;set 0 5")
                .calls("fetch=0 free=1 run(0)=0 free=1 commit=0 free=1");
        Edge.of(16, "NONE: 1 (no CORE).").refused("free!1");
    }

    private static void ready() {
        Edge.of(17, "CELLS that are READY, FREE or not, as bits.")
                .core("core cells 9 window 6 saves 0 share 1 late;set 1 5;set 2 6")
                .calls("ready=255 fetch=0 ready=255 run(0)=0 ready=511 commit=0 free=2 ready=511 fetch=1 ready=509 run(0)=0"
                        + " ready=511 trouble=0");
        Edge.of(17, "CELLS that are READY, FREE or not, as bits.").core(LATE + ";skip 0 0 0 no;set 1 5;set 2 6")
                .calls("fetch=0 fetch=1 fetch=2 run(2)=0 ready=767 run(0)=2 free=3840 ready=767 cell(9,0)=6 cell(8,0)=-2");
        Edge.of(17, "NONE: 1 (no CORE).").refused("ready!1");
    }

    private static void entries() {
        Edge.of(18, "How many ENTRIES there are.").core("core cells 9 window 2 saves 0 share 1 late;skip 0 0 0 yes")
                .calls("entries=0 trouble=0 fetch=0 entries=1 fetch=0 entries=2 fetch!3 entries=2 run(0)=0 commit=0 entries=1")
                .core("core cells 9 window 12 saves 0 share 1 late;skip 0 0 0 yes").times(12, "fetch=0")
                .calls("entries=12 fetch!3 entries=12");
        Edge.of(18, "NONE: 1 (no CORE).").refused("entries!1");
    }

    private static void entry() {
        Edge.of(19, "Of the i-th from the oldest on 0 its STEP,")
                .core("core cells 9 window 12 saves 0 share 1 late;skip 0 0 2 yes;skip 0 0 9 yes;skip 0 0 1 yes")
                .calls("fetch=0 fetch=2 fetch=1 entry(0,0)=0 entry(1,0)=2 entry(2,0)=1 run(0)=0 commit=0 entry(0,0)=2");
        Edge.of(19, "1 its NEW CELL (-2 none),").core("core cells 12 window 6 saves 0 share 2 late;set 0 5;move 1 0;skip 0 0 0 no")
                .calls("fetch=0 fetch=1 fetch=2 entry(0,1)=8 entry(1,1)=8 entry(2,1)=-2 trouble=0");
        Edge.of(19, "2 the first CELL it reads (-2), 3 the second (-2),")
                .core("core cells 24 window 6 saves 0 share 1 late;set 1 5;move 2 1;add 3 1 2;skip 0 7 4 no;div 4 0 3")
                .calls("fetch=0 fetch=1 fetch=2 fetch=3 fetch=4 entry(0,2)=-2 entry(0,3)=-2 entry(1,2)=8 entry(1,3)=-2"
                        + " entry(2,2)=8 entry(2,3)=9 entry(3,2)=0 entry(3,3)=7 entry(4,2)=0 entry(4,3)=10 trouble=0");
        Edge.of(19, "2 the first CELL it reads (-2), 3 the second (-2),")
                .core("core cells 24 window 6 saves 0 share 1 late;set 1 5;add 3 1 2;div 4 0 3;sub 5 1 4")
                .calls("fetch=0 fetch=1 fetch=2 fetch=3 run(0)=0 commit=0 entry(0,2)=8 entry(0,3)=2 entry(1,2)=0 entry(1,3)=9"
                        + " entry(2,2)=8 entry(2,3)=10"
                + " run(0)=0 commit=1 entry(0,2)=0 entry(0,3)=9 entry(1,2)=8 entry(1,3)=10");
        Edge.of(19, "4 1 if it is DONE,").core(LATE + ";set 1 5;move 2 0;skip 0 0 3 yes;div 3 0 0")
                .calls("fetch=0 fetch=1 fetch=2 fetch=3 entry(0,4)=0 entry(1,4)=1 entry(2,4)=0 entry(3,4)=0 run(0)=0 run(2)=0"
                        + " run(3)=0 entry(0,4)=1 entry(2,4)=1 entry(3,4)=1");
        Edge.of(19, "5 1 if it has TRAPPED,").core(LATE + ";set 1 5;div 2 1 0;div 3 0 1")
                .calls("fetch=0 fetch=1 fetch=2 entry(1,5)=0 run(0)=0 run(1)=0 run(2)=0 entry(0,5)=0 entry(1,5)=1 entry(2,5)=0"
                        + " commit=0 entry(0,5)=1 entry(1,5)=0");
        Edge.of(19, "6 1 if it is MERGED,").core(LATE + ";set 1 5;move 2 1;move 3 1")
                .calls("fetch=0 fetch=1 fetch=2 entry(0,6)=0 entry(1,6)=1 entry(2,6)=0 run(0)=0 commit=0 entry(0,6)=1"
                        + " entry(1,6)=0");
        Edge.of(19, "7 1 if it has a SAVE,").core(LATE + ";set 1 5;skip 0 0 2 yes;skip 0 0 3 yes")
                .calls("fetch=0 fetch=1 fetch=2 entry(0,7)=0 entry(1,7)=1 entry(2,7)=0 run(0)=0 commit=0 entry(0,7)=1 run(0)=0"
                        + " entry(0,7)=0 entry(1,7)=0");
        Edge.of(19, "8 1 if it is SURE.").core(LATE + ";set 1 5;skip 0 0 2 yes;set 2 5")
                .calls("fetch=0 fetch=1 fetch=2 entry(0,8)=1 entry(1,8)=0 entry(2,8)=0 run(1)=0 entry(1,8)=1 entry(2,8)=1");
        Edge.of(19, "8 1 if it is SURE.").core(LATE + ";set 1 5;set 3 1;skip 0 0 3 yes;set 2 5")
                .calls("fetch=0 fetch=1 fetch=2 fetch=3 run(0)=0 commit=0 entry(0,8)=1 entry(1,8)=0 entry(2,8)=0 run(0)=0"
                        + " commit=1 entry(0,8)=0 entry(1,8)=0 run(0)=0 entry(0,8)=1 entry(1,8)=1");
        Edge.of(19, "NONE: 1.").refused("entry(0,0)!1").core(LATE + ";set 1 5;set 2 5").refused("entry(0,0)!1").calls("fetch=0")
                .refused("entry(1,0)!1 entry(-1,0)!1 entry(0,9)!1 entry(0,-1)!1 entry(1,9)!1 entry(2147483647,0)!1"
                        + " entry(-2147483648,0)!1 entry(0,2147483647)!1 entry(0,-2147483648)!1")
                .core("core cells 9 window 12 saves 0 share 1 late;skip 0 0 0 yes").times(12, "fetch=0")
                .calls("entry(11,8)=0 entry(12,8)!1");
    }

    private static void runnable() {
        String sentence = "Which ENTRIES can RUN, as bits from the oldest on.";
        Edge.of(20, sentence).core(LATE + ";set 1 5;add 2 1 0;sub 3 0 1;move 4 1;skip 1 1 9 no;div 5 0 0")
                .calls("runnable=0 fetch=0 runnable=1 fetch=1 fetch=2 runnable=1 fetch=3 entry(3,6)=1 runnable=1 fetch=4"
                        + " runnable=1 fetch=5 runnable=33 run(0)=0 runnable=54 run(5)=0 runnable=22 run(1)=0 run(2)=0"
                        + " runnable=16 run(4)=1 runnable=0 trouble=0");
        Edge.of(20, sentence).core("core cells 9 window 12 saves 0 share 1 late;skip 0 0 0 yes").times(12, "fetch=0")
                .calls("runnable=4095 run(11)=0 runnable=2047 run(0)=0 runnable=2046 commit=0 runnable=1023");
        Edge.of(20, "NONE: 1 (no CORE).").refused("runnable!1");
    }

    private static void nextStep() {
        Edge.of(21, "The NEXT STEP (it need not be there).").core(LATE + ";set 1 5")
                .calls("nextStep=0 fetch=0 nextStep=1 trouble=0 fetch!6 nextStep=1").core(LATE + ";skip 0 0 24 yes")
                .calls("fetch=0 nextStep=24").core(LATE + ";skip 0 0 23 yes" + EdgeText.times(23, ";set 1 5"))
                .calls("fetch=0 nextStep=23 fetch=23 nextStep=24 fetch!6").core(LATE + ";div 1 0 0")
                .calls("fetch=0 run(0)=0 commit=-2 nextStep=0 resume(24)=1 nextStep=24 trouble=0");
        Edge.of(21, "NONE: 1 (no CORE).").refused("nextStep!1");
    }

    private static void fetchable() {
        Edge.of(22, "0 a STEP can be FETCHED,").core("core cells 9 window 2 saves 0 share 1 late;set 1 5;skip 0 0 0 yes")
                .calls("fetchable=0 trouble=0 fetch=0 free=0 fetchable=0 fetch=1")
                .core("core cells 9 window 3 saves 0 share 2 late;set 1 5;move 2 1").calls("fetch=0 free=0 fetchable=0 fetch=1");
        Edge.of(22, "1 the CORE STOPS,").core(LATE + ";div 1 0 0")
                .calls("fetch=0 run(0)=0 fetchable=2 commit=-2 fetchable=1 trouble=0 resume(1)=1 fetchable=2 resume(0)!5");
        Edge.of(22, "2 there is no such STEP,").core(LATE + ";set 1 5").calls("fetch=0 fetchable=2").core(LATE + ";skip 0 0 24 yes")
                .calls("fetch=0 fetchable=2 trouble=0").core(LATE + ";skip 0 0 1 yes").calls("fetch=0 fetchable=2");
        Edge.of(22, "3 the WINDOW is full,").core("core cells 24 window 2 saves 0 share 1 late;skip 0 0 1 yes;set 2 5;set 3 5")
                .calls("fetch=0 fetchable=0 fetch=1 fetchable=3 run(0)=0 commit=0 fetchable=0")
                .core("core cells 24 window 12 saves 0 share 1 late;skip 0 0 0 yes").times(11, "fetch=0")
                .calls("fetchable=0 fetch=0 fetchable=3");
        Edge.of(22, "4 no CELL is FREE for it").core("core cells 9 window 3 saves 0 share 1 late;set 1 5;move 2 0")
                .calls("fetch=0 fetchable=4 run(0)=0 fetchable=4 commit=0 fetchable=0")
                .core("core cells 9 window 3 saves 0 share 2 late;set 1 5;move 2 1;move 3 1").calls("fetch=0 fetch=1 fetchable=4")
                .core("core cells 9 window 3 saves 0 share 1 early;add 1 1 1;set 2 5")
                .calls("fetch=0 fetchable=4 run(0)=0 letGo=2 fetchable=0");
        Edge first = Edge.of(22, "(the first such).");
        first.core("core cells 9 window 2 saves 0 share 1 late;set 1 5;skip 0 0 2 no;set 3 5")
                .calls("fetch=0 fetch=1 free=0 fetchable=3")
                .core("core cells 9 window 2 saves 0 share 1 late;set 1 5;skip 0 0 2 no")
                .calls("fetch=0 fetch=1 free=0 fetchable=2");
        first.core("core cells 9 window 2 saves 0 share 1 late;div 1 0 0")
                .calls("fetch=0 free=0 fetchable=2 run(0)=0 commit=-2 fetchable=1 resume(24)=1 fetchable=2");
        Edge.of(22, "NONE: 1 (no CORE).").refused("fetchable!1");
    }

    // 3 is never met: a CELL that an ENTRY shares isn't taken anew, and who made its value is older, so committed by then.
    private static void commitable() {
        Edge.of(23, "0 the oldest ENTRY can COMMIT, 1 there is none, 2 it isn't DONE, 3 its CELL isn't READY.")
                .core(LATE + ";set 1 5;move 2 1;skip 0 0 3 yes;div 3 0 0")
                .calls("commitable=1 trouble=0 fetch=0 commitable=2 fetch=1 commitable=2 run(0)=0 commitable=0 commit=0"
                        + " commitable=0 entry(0,6)=1 fetch=2 commit=1 commitable=2 run(0)=0 commitable=0 commit=2 commitable=1"
                        + " fetch=3 commitable=2 run(0)=0 commitable=0 commit=-2 commitable=1 trouble=0");
        Edge.of(23, "NONE: 1 (no CORE).").refused("commitable!1");
    }

    private static void walked() {
        String sentence = "The MAP's CELL of a register, were all ENTRIES behind the i-th taken out, walked back from the"
                        + " youngest on.";
        Edge.of(24, sentence).core(LATE + ";set 1 5;set 1 6;move 2 1;set 1 7")
                .calls("fetch=0 fetch=1 fetch=2 fetch=3 walked(3,1)=10 walked(2,1)=9 walked(1,1)=9 walked(0,1)=8 walked(3,2)=9"
                        + " walked(2,2)=9 walked(1,2)=2 walked(0,2)=2 walked(0,0)=0 walked(3,7)=7 trouble=0 run(0)=0 commit=0"
                        + " walked(0,1)=9 walked(2,1)=10 walked(0,2)=2");
        Edge.of(24, "NONE: 1.").refused("walked(0,0)!1").core(LATE + ";set 1 5").refused("walked(0,0)!1").calls("fetch=0")
                .refused("walked(1,0)!1 walked(-1,0)!1 walked(0,8)!1 walked(0,-1)!1 walked(2147483647,0)!1"
                        + " walked(-2147483648,0)!1 walked(0,2147483647)!1 walked(0,-2147483648)!1").calls("walked(0,7)=7");
    }

    private static void saved() {
        Edge.of(25, "That CELL by the i-th ENTRY's SAVE;").core(LATE + ";set 1 5;skip 0 0 2 yes;set 1 6;set 2 7")
                .calls("fetch=0 fetch=1 fetch=2 fetch=3 mapped(1)=9 saved(1,1)=8 saved(1,2)=2 saved(1,0)=0 saved(1,7)=7 run(0)=0"
                        + " commit=0 saved(0,1)=8 saved(0,2)=2 trouble=0");
        Edge.of(25, "-2 it has none.").core(LATE + ";set 1 5;skip 0 0 2 yes;skip 0 0 3 yes")
                .calls("fetch=0 fetch=1 fetch=2 saved(0,1)=-2 trouble=0 saved(1,1)=8 saved(2,1)=-2 run(1)=0 saved(1,1)=-2"
                        + " saved(2,1)=-2").core("core cells 9 window 2 saves 0 share 1 late;skip 0 0 0 yes").calls("fetch=0"
                        + " saved(0,0)=-2");
        Edge.of(25, "NONE: 1.").refused("saved(0,0)!1").core(LATE + ";skip 0 0 1 yes").refused("saved(0,0)!1").calls("fetch=0")
                .refused("saved(1,0)!1 saved(-1,0)!1 saved(0,8)!1 saved(0,-1)!1 saved(2147483647,0)!1 saved(-2147483648,0)!1"
                        + " saved(0,2147483647)!1 saved(0,-2147483648)!1").calls("saved(0,7)=7");
    }

    private static void gives() {
        String sentence = "How many CELLS more were FREE if all ENTRIES behind the i-th were taken out";
        Edge.of(26, sentence).core(LATE + ";set 1 5;move 2 1;skip 0 0 3 no;set 3 1;set 4 1")
                .calls("fetch=0 fetch=1 fetch=2 fetch=3 fetch=4 gives(4)=0 gives(3)=1 gives(2)=2 gives(1)=2 gives(0)=2 trouble=0");
        Edge.of(26, sentence).core("core cells 24 window 12 saves 0 share 1 late" + EdgeText.times(12, ";set 1 5"))
                .calls("fetch=0 fetch=1 fetch=2 fetch=3 fetch=4 fetch=5 fetch=6 fetch=7 fetch=8 fetch=9 fetch=10 fetch=11"
                        + " gives(0)=11 gives(11)=0 gives(10)=1");
        Edge.of(26, "(maybe below 0, as registers aren't LET GO then;").core(EARLY + ";set 2 1;move 1 3")
                .calls("fetch=0 fetch=1 entry(1,6)=1 letGo=6 gives(0)=-1 gives(1)=0 trouble=0")
                .core("core cells 12 window 6 saves 1 share 4 early;move 1 0;move 2 0;move 3 0")
                .calls("fetch=0 fetch=1 fetch=2 letGo=14 gives(0)=-2 gives(1)=-1 gives(2)=0 trouble=0");
        Edge.of(26, "those whose CELL was taken still are).")
                .core("core cells 12 window 6 saves 0 share 1 early;set 2 1;set 1 3;set 3 4")
                .calls("fetch=0 fetch=1 entry(1,1)=2 fetch=2 entry(2,1)=1 letGo=14 free=3592 gives(0)=1 gives(1)=0 gives(2)=0");
        Edge.of(26, "NONE: 1.").refused("gives(0)!1").core(LATE + ";set 1 5").refused("gives(0)!1").calls("fetch=0 gives(0)=0")
                .refused("gives(1)!1 gives(-1)!1 gives(2147483647)!1 gives(-2147483648)!1");
    }

    private static void agrees() {
        String sentence = "1 if the PLAIN machine, behind as many STEPS as were COMMITTED since the text was told";
        Edge.of(27, sentence).core(LATE + ";set 1 5;skip 0 0 3 no;set 2 2;div 3 0 0")
                .calls("agrees=1 trouble=0 fetch=0 run(0)=0 agrees=1 commit=0 agrees=1 fetch=1 fetch=2 run(1)=0 run(0)=1 agrees=1"
                        + " commit=1 agrees=1 fetch=3 run(0)=0 commit=-2 size(8)=2 agrees=1");
        Edge.of(27, sentence).core(LATE + ";set 1 5;unsure 0 6;got 1 6")
                .calls("fits=1 judge=0 fetch=0 run(0)=0 commit=0 value(1)=5 agrees=1");
        Edge.of(27, "(undone ones not),").core(LATE + ";set 1 5;set 1 6")
                .calls("fetch=0 run(0)=0 commit=0 undo=1 agrees=1 size(8)=0 commit=0 fetch=1 run(0)=0 commit=1 agrees=1 undo=1"
                        + " agrees=1 size(8)=1 value(1)=5");
        Edge.of(27, "has all registers as KEPT (those LET GO no matter),").core(EARLY + ";set 1 5;set 2 6")
                .calls("fetch=0 fetch=1 letGo=6 agrees=1 run(0)=0 commit=0 letGo=4 agrees=1");
        // 201 COMMITS by 2 calls each: moves that are MERGED, and each 24th STEP a skip
        Edge e = Edge.of(27, "else 0 (if more were than it does,")
                .core("core cells 9 window 2 saves 0 share 4 late" + EdgeText.times(23, ";move 1 0") + ";skip 0 0 0 yes");
        for (int k = 0; k < 200; k++) {
            e.calls(k % 24 == 23 ? "fetch=23 run(0)=0 commit=23" : "fetch=" + k % 24 + " commit=" + k % 24);
        }
        e.calls("size(8)=200 agrees=1 fetch=8 agrees=1 commit=8 size(8)=201 agrees=0 trouble=0 undo=1 agrees=1");
        Edge.of(27, "or the CORE was RESUMED, too).").core(LATE + ";div 1 0 0")
                .calls("fetch=0 run(0)=0 commit=-2 agrees=1 image=0 resume(0)=1 agrees=0 trouble=0 undo=1 agrees=1 resume(0)=1"
                        + " fetch=0 run(0)=0 commit=-2 agrees=0 image=1 back(0)=1 agrees=1 back(1)=1 agrees=0").told(LATE + ";div"
                        + " 1 0 0", 1).calls("agrees=1");
        Edge.of(27, "NONE: 1 (no CORE).").refused("agrees!1");
    }
}
