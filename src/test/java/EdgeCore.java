/** Term III, up to COMMIT: the CORE, its CELLS, its WINDOW. */
final class EdgeCore {
    private static final String LATE = "core cells 12 window 6 saves 2 share 1 late";
    private static final String EARLY = "core cells 12 window 6 saves 2 share 1 early";

    private EdgeCore() {
    }

    static void all() {
        cellsAndWindow();
        fetching();
        merging();
        saves();
        nextOnes();
        holders();
        lateLetsGoNone();
        letGoBySureOnes();
        letGoUnlessHeld();
        letGoUnlessRead();
        takenWhileLetGo();
        sureOnes();
        running();
        missing();
        committing();
        stopping();
    }

    private static void cellsAndWindow() {
        String sentence = "The CORE has CELLS, 0 .. cells less 1, each with a value, READY or not, and a WINDOW of ENTRIES, the"
                        + " oldest ahead.";
        Edge.of("III", sentence).core("core cells 9 window 2 saves 0 share 1 late;skip 0 0 0 yes")
                .calls("cell(8,0)=-2 cell(9,0)!1 cell(0,0)=0 fetch=0 fetch=0 entries=2 fetch!3");
        Edge.of("III", sentence).core("core cells 24 window 12 saves 0 share 1 late;skip 0 0 0 yes")
                .calls("cell(23,0)=-2 cell(24,0)!1").times(12, "fetch=0").calls("entries=12 fetch!3 entry(11,0)=0 entry(12,0)!1");
        Edge.of("III", sentence).core(LATE + ";set 1 5;set 2 6").calls("fetch=0 fetch=1 entry(0,0)=0 entry(1,0)=1");
        Edge.of("III", "KEPT: for each register a CELL; at first that of its number (READY, 0).")
                .core("core cells 24 window 2 saves 0 share 1 late;set 1 5")
                .calls("kept(0)=0 kept(1)=1 kept(2)=2 kept(3)=3 kept(4)=4 kept(5)=5 kept(6)=6 kept(7)=7 ready=255 cell(0,0)=0"
                        + " cell(7,0)=0 cell(8,0)=-2 cell(23,0)=-2 value(0)=0 value(7)=0");
        String moved = "core cells 9 window 2 saves 0 share 1 late;set 0 5;set 1 6;set 2 7";
        Edge.of("III", "KEPT: for each register a CELL; at first that of its number (READY, 0).").core(moved)
                .calls("fetch=0 run(0)=0 commit=0 fetch=1 run(0)=0 commit=1 fetch=2 run(0)=0 commit=2 kept(0)=8 kept(1)=0"
                        + " kept(2)=1 cell(0,0)=6 cell(1,0)=7 cell(2,0)=0")
                .told(moved, 3)
                .calls("kept(0)=0 kept(1)=1 kept(2)=2 kept(7)=7 cell(0,0)=0 cell(1,0)=0 value(0)=0 value(1)=0 value(2)=0"
                        + " ready=255 cell(8,0)=-2");
        Edge.of("III", "The MAP: for each register the NEW CELL of the youngest ENTRY that has one for it, else the KEPT one.")
                .core(LATE + ";set 1 5;set 1 6;set 2 7;skip 0 0 0 no")
                .calls("mapped(1)=1 fetch=0 mapped(1)=8 fetch=1 mapped(1)=9 mapped(2)=2 fetch=2 mapped(2)=10 mapped(1)=9 fetch=3"
                        + " mapped(1)=9 run(0)=0 commit=0 mapped(1)=9 kept(1)=8 run(0)=0 commit=1 mapped(1)=9 kept(1)=9");
    }

    private static void fetching() {
        String reading = "FETCH takes the NEXT STEP (0 at first) as youngest ENTRY, reading the CELLS that the MAP has then for"
                        + " what it reads.";
        Edge.of("III", reading).core("core cells 24 window 6 saves 2 share 1 late;add 1 1 1;add 1 1 2;sub 2 1 1;set 1 3;move 3 2")
                .calls("nextStep=0 fetch=0 entry(0,2)=1 entry(0,3)=1 entry(0,1)=8 fetch=1 entry(1,2)=8 entry(1,3)=2 entry(1,1)=9"
                        + " fetch=2 entry(2,2)=9 entry(2,3)=9 fetch=3 entry(3,2)=-2 entry(3,3)=-2"
                        + " fetch=4 entry(4,2)=10 entry(4,3)=-2 entry(0,2)=1 entry(1,2)=8");
        String lowest = "It has a NEW CELL for what becomes: the lowest FREE one, not READY.";
        Edge.of("III", lowest).core(LATE + ";set 1 5;set 2 6;set 3 7;set 4 8")
                .calls("fetch=0 entry(0,1)=8 fetch=1 entry(1,1)=9 run(0)=0 run(1)=0 commit=0 free=3074 ready=1023 fetch=2"
                        + " entry(1,1)=1 ready=1021 cell(1,0)=-2 free=3072"
                + " fetch=3 entry(2,1)=10 commit=1 free=2052");
        Edge.of("III", lowest).core("core cells 9 window 6 saves 0 share 1 late;set 7 5;set 6 6;set 5 7")
                .calls("fetch=0 entry(0,1)=8 fetch!3 run(0)=0 commit=0 free=128 fetch=1 entry(0,1)=7 ready=383 run(0)=0 commit=1"
                        + " free=64 fetch=2 entry(0,1)=6 ready=447");
    }

    private static void merging() {
        String sentence = "But a move whose CELL, read, has fewer HOLDERS than share is MERGED: that CELL is its NEW one, and it"
                        + " is DONE.";
        String moves = ";move 1 0;move 2 0;move 3 0;move 4 0;move 0 0";
        Edge.of("III", sentence).core("core cells 24 window 6 saves 0 share 1 late" + moves)
                .calls("fetch=0 entry(0,6)=0 entry(0,4)=0 entry(0,1)=8 cell(0,1)=1");
        Edge.of("III", sentence).core("core cells 24 window 6 saves 0 share 2 late" + moves)
                .calls("fetch=0 entry(0,6)=1 entry(0,4)=1 entry(0,1)=0 cell(0,1)=2 fetch=1 entry(1,6)=0 entry(1,4)=0 entry(1,1)=8"
                        + " cell(0,1)=2");
        Edge.of("III", sentence).core("core cells 24 window 6 saves 0 share 3 late" + moves)
                .calls("fetch=0 fetch=1 entry(1,6)=1 cell(0,1)=3 fetch=2 entry(2,6)=0 entry(2,1)=8 entry(2,2)=0");
        Edge.of("III", sentence).core("core cells 24 window 6 saves 0 share 4 late" + moves)
                .calls("fetch=0 fetch=1 fetch=2 entry(2,6)=1 cell(0,1)=4 fetch=3 entry(3,6)=0 entry(3,1)=8 fetch=4 entry(4,6)=0"
                        + " entry(4,1)=9");
        Edge.of("III", sentence).core("core cells 9 window 6 saves 0 share 2 late;set 1 5;move 2 1;move 3 1")
                .calls("fetch=0 free=0 fetch=1 entry(1,6)=1 entry(1,4)=1 entry(1,1)=8 entry(1,2)=8 ready=255 fetchable=4 fetch!3");
        Edge.of("III", sentence).core("core cells 12 window 6 saves 0 share 2 late;move 1 1;move 1 1")
                .calls("fetch=0 entry(0,6)=1 entry(0,1)=1 cell(1,1)=2 fetch=1 entry(1,6)=0 entry(1,1)=8 commit=0 kept(1)=1"
                        + " cell(1,1)=1 cell(1,2)=1");
        // early: a register that is LET GO doesn't hold, so the CELL that it shared is shared anew
        Edge.of("III", sentence).core("core cells 12 window 6 saves 0 share 2 early;move 2 1;set 1 5;move 3 2;move 4 2")
                .calls("fetch=0 commit=0 cell(1,1)=2 fetch=1 letGo=2 cell(1,1)=1 fetch=2 entry(1,6)=1 entry(1,1)=1 letGo=8"
                        + " cell(1,1)=3"
                + " fetch=3 entry(2,6)=0");
    }

    private static void saves() {
        String sentence = "A skip has no NEW one; if fewer ENTRIES have a SAVE than saves, it has one: the MAP as it is then.";
        String skips = ";skip 0 1 9 no;skip 0 2 9 no;skip 0 3 9 no;skip 0 4 9 no;skip 0 5 9 no";
        for (int saves = 0; saves <= 4; saves++) {
            Edge e = Edge.of("III", sentence).core("core cells 12 window 6 saves " + saves + " share 1 late" + skips)
                    .calls("fetch=0 fetch=1 fetch=2 fetch=3 fetch=4 size(9)=" + saves);
            for (int i = 0; i < 5; i++) {
                e.calls("entry(" + i + ",1)=-2 entry(" + i + ",7)=" + (i < saves ? 1 : 0) + ""
                                + " saved(" + i + ",7)=" + (i < saves ? 7 : -2));
            }
        }
        Edge.of("III", sentence)
                .core("core cells 12 window 6 saves 1 share 1 late;skip 0 0 1 yes;skip 0 0 2 yes;skip 0 0 3 yes;skip 0 0 0 no")
                .calls("fetch=0 fetch=1 entry(0,7)=1 entry(1,7)=0 run(0)=0 size(9)=0 entry(1,7)=0 fetch=2 entry(2,7)=1 size(9)=1");
        Edge.of("III", sentence).core("core cells 12 window 6 saves 1 share 1 late;skip 0 0 2 no;skip 0 0 3 no;skip 0 0 0 yes")
                .calls("fetch=0 fetch=1 size(9)=1 entry(1,7)=0 run(0)=1 size(9)=0 fetch=2 entry(1,7)=1");
        Edge.of("III", sentence)
                .core("core cells 12 window 6 saves 2 share 1 late;set 1 5;skip 0 0 2 yes;skip 0 0 0 no;set 1 6;set 2 3")
                .calls("fetch=0 fetch=1 fetch=2 fetch=3 fetch=4 size(9)=2 saved(1,1)=8 saved(2,1)=8 saved(1,2)=2 run(2)=2"
                        + " size(9)=1 saved(2,1)=-2 saved(1,1)=8"
                + " run(0)=0 commit=0 saved(0,1)=8 saved(0,0)=0 kept(1)=8");
    }

    private static void nextOnes() {
        String sentence = "NEXT is, of a skip guessed yes the STEP told, else the one behind.";
        Edge.of("III", sentence).core(LATE + ";skip 1 1 3 yes;set 1 1;set 1 1;skip 1 1 0 no;set 2 2")
                .calls("fetch=0 nextStep=3 fetch=3 nextStep=4 fetch=4 nextStep=5 fetch!6");
        Edge.of("III", sentence).core(LATE + ";skip 1 1 24 yes").calls("fetch=0 nextStep=24 fetch!6");
        Edge.of("III", sentence).core(LATE + ";skip 1 1 0 yes").calls("fetch=0 nextStep=0 fetch=0 nextStep=0");
        Edge.of("III", sentence)
                .core("core cells 24 window 12 saves 0 share 2 late;set 1 1;add 1 1 1;sub 1 1 1;div 1 1 1;move 1 1;skip 1 1 0 no")
                .calls("fetch=0 nextStep=1 fetch=1 nextStep=2 fetch=2 nextStep=3 fetch=3 nextStep=4 fetch=4 nextStep=5 fetch=5"
                        + " nextStep=6");
    }

    private static void holders() {
        String sentence = "HOLDERS of a CELL: ENTRIES whose NEW one it is, and registers for which it is KEPT, but, early, those"
                        + " that are LET GO.";
        Edge.of("III", sentence).core("core cells 12 window 6 saves 0 share 4 late;move 1 0;move 2 0;set 0 3")
                .calls("cell(0,1)=1 fetch=0 cell(0,1)=2 fetch=1 cell(0,1)=3 commit=0 cell(0,1)=3 cell(1,1)=0 commit=1 cell(0,1)=3"
                        + " fetch=2 cell(0,1)=3 run(0)=0 commit=2 cell(0,1)=2 kept(0)=1 cell(1,1)=1");
        Edge.of("III", sentence).core("core cells 12 window 6 saves 0 share 4 early;move 1 0;set 0 3")
                .calls("fetch=0 commit=0 cell(0,1)=2 fetch=1 letGo=1 cell(0,1)=1 entry(0,1)=1 run(0)=0 commit=1 cell(0,1)=1"
                        + " cell(1,1)=1");
        Edge.of("III", "It is FREE if it has none.").core("core cells 9 window 6 saves 0 share 2 late;set 1 5;move 2 1;set 1 3")
                .calls("cell(8,1)=0 free=256 fetch=0 cell(8,1)=1 free=0 fetch=1 run(0)=0 commit=0 cell(1,1)=0 free=2 commit=1"
                        + " free=6 cell(2,1)=0 cell(8,1)=2");
    }

    private static void lateLetsGoNone() {
        Edge.of("III", "LET GO is a register (early)").core(LATE + ";set 1 5")
                .calls("fetch=0 letGo=0 run(0)=0 letGo=0 value(1)=0 cell(1,1)=1").core(EARLY + ";set 1 5")
                .calls("letGo=0 fetch=0 letGo=2 run(0)=0 letGo=2 value(1)=-2 cell(1,1)=0 commit=0 letGo=0 value(1)=5");
    }

    private static void letGoBySureOnes() {
        String sentence = "if some ENTRY of the WINDOW that is SURE has a NEW CELL for it,";
        Edge.of("III", sentence).core(EARLY + ";skip 0 0 1 yes;set 1 5;set 2 3")
                .calls("fetch=0 fetch=1 fetch=2 letGo=0 run(1)=0 letGo=0 run(0)=0 letGo=6");
        Edge.of("III", sentence).core(EARLY + ";set 3 1;div 2 3 3;set 1 5")
                .calls("fetch=0 letGo=8 fetch=1 letGo=8 fetch=2 letGo=8 run(0)=0 letGo=8 run(1)=0 letGo=14");
        Edge.of("III", sentence).core(EARLY + ";div 2 3 3;set 1 5")
                .calls("fetch=0 fetch=1 run(0)=0 entry(0,5)=1 letGo=0 run(1)=0 letGo=0");
        Edge.of("III", sentence).core(EARLY + ";set 1 5;skip 0 0 0 no;set 2 6")
                .calls("fetch=0 fetch=1 fetch=2 letGo=2 run(1)=1 letGo=2 entries=2");
        Edge.of("III", sentence).core(EARLY + ";set 0 5;set 1 5;set 2 5;set 3 5;set 4 5;set 5 5;set 6 5;set 7 5")
                .calls("fetch=0 letGo=1 fetch=1 fetch=2 fetch=3 fetch=4 fetch=5 letGo=63 fetch!3");
    }

    private static void letGoUnlessHeld() {
        String sentence = "its KEPT CELL is no ENTRY's NEW one,";
        Edge.of("III", sentence).core("core cells 12 window 6 saves 0 share 2 early;move 2 1;set 1 5")
                .calls("fetch=0 fetch=1 letGo=4 cell(1,1)=2 commit=0 letGo=2 cell(1,1)=1");
        Edge.of("III", sentence).core("core cells 12 window 6 saves 0 share 2 early;set 1 5;set 3 6;skip 1 1 0 no")
                .calls("fetch=0 letGo=2 fetch=1 entry(1,1)=1 letGo=10");
        Edge.of("III", sentence).core("core cells 12 window 6 saves 0 share 2 early;move 1 1;set 2 3")
                .calls("fetch=0 entry(0,1)=1 letGo=0 commit=0 letGo=0 kept(1)=1 value(1)=0");
        // the ENTRY that holds it may be a doubtful one
        Edge.of("III", sentence).core("core cells 12 window 6 saves 0 share 3 early;move 2 1;set 1 5;skip 0 0 0 no;move 3 2")
                .calls("fetch=0 commit=0 fetch=1 letGo=2 fetch=2 fetch=3 entry(2,6)=1 entry(2,1)=1 letGo=0 run(1)=1 letGo=2");
    }

    private static void letGoUnlessRead() {
        String sentence = "and no ENTRY that isn't DONE reads it;";
        Edge.of("III", sentence).core(EARLY + ";add 2 1 3;set 1 5;set 3 6")
                .calls("fetch=0 letGo=4 fetch=1 letGo=4 fetch=2 letGo=4 cell(1,2)=1 cell(3,2)=1 run(1)=0 letGo=4 run(0)=0"
                        + " letGo=14");
        Edge.of("III", sentence).core(EARLY + ";set 1 5;add 1 1 1").calls("fetch=0 letGo=2 fetch=1 letGo=2")
                .core(EARLY + ";add 1 1 1").calls("fetch=0 letGo=0 run(0)=0 letGo=2");
        // a doubtful one that reads it by a register that shares the CELL
        Edge.of("III", sentence).core("core cells 12 window 6 saves 0 share 2 early;move 2 1;set 1 5;skip 2 0 0 no")
                .calls("fetch=0 commit=0 fetch=1 letGo=2 fetch=2 entry(1,2)=1 letGo=0 cell(1,1)=2 value(1)=0 run(1)=0 letGo=2"
                        + " cell(1,1)=1");
    }

    private static void takenWhileLetGo() {
        String sentence = "when such a CELL, being FREE, is taken at a FETCH, its registers are LET GO from then on, till another"
                        + " CELL is KEPT for them.";
        Edge.of("III", sentence).core("core cells 9 window 6 saves 0 share 2 early;move 2 1;set 1 5;set 2 6;set 3 7")
                .calls("fetch=0 commit=0 free=260 fetch=1 entry(0,1)=2 letGo=2 free=256 fetch=2 entry(1,1)=8 letGo=6 free=2"
                        + " cell(1,1)=0 fetch=3 entry(2,1)=1 letGo=14 free=8 cell(1,1)=1"
                        + " run(2)=0 letGo=14 run(0)=0 commit=1 letGo=12 value(1)=5 value(2)=-2 run(0)=0 commit=2 letGo=8"
                                + " value(2)=6 value(3)=-2 commit=3 letGo=0 value(3)=7 agrees=1");
        Edge.of("III", sentence).core("core cells 9 window 6 saves 0 share 1 early;set 1 5;skip 1 0 0 yes;set 2 7")
                .calls("fetch=0 fetch=1 fetch=0 entry(2,1)=1 letGo=2 run(0)=0 run(1)=1 letGo=2 value(1)=-2 free=2 cell(1,1)=0"
                        + " kept(1)=1 fetch=2 entry(2,1)=1 letGo=6 commit=0 letGo=4 value(1)=5");
        Edge.of("III", sentence).core("core cells 9 window 6 saves 0 share 1 early;set 1 5;set 2 6;add 3 2 2")
                .calls("fetch=0 fetch=1 entry(1,1)=1 fetch=2 entry(2,2)=1 entry(2,1)=2 letGo=14 cell(1,2)=1 value(1)=-2");
        // only LET GO, its CELL not taken: it is as before when one reads the CELL that it shared
        Edge.of("III", sentence).core("core cells 12 window 6 saves 0 share 2 early;move 2 1;set 1 5;add 3 2 2")
                .calls("fetch=0 commit=0 fetch=1 letGo=2 fetch=2 letGo=8 value(1)=0");
    }

    private static void sureOnes() {
        String sentence = "An ENTRY is SURE if neither it nor an older one is a skip or div that isn't DONE, or has TRAPPED.";
        String all = ";set 3 2;div 1 3 3;skip 0 0 3 yes;move 2 3;div 4 3 0;add 5 3 3";
        Edge.of("III", sentence).core("core cells 24 window 6 saves 0 share 1 late" + all)
                .calls("fetch=0 fetch=1 fetch=2 fetch=3 fetch=4 fetch=5 entry(0,8)=1 entry(1,8)=0 entry(2,8)=0 entry(3,8)=0"
                        + " entry(5,8)=0")
                .calls("run(2)=0 entry(2,8)=0 entry(3,8)=0 run(0)=0 entry(1,8)=0 run(1)=0 entry(1,8)=1 entry(2,8)=1 entry(3,8)=1"
                        + " entry(4,8)=0 entry(5,8)=0")
                .calls("run(4)=0 entry(4,4)=1 entry(4,5)=1 entry(4,8)=0 entry(5,8)=0 run(5)=0 entry(5,8)=0 entry(3,8)=1"
                        + " entry(3,4)=0");
        Edge.of("III", sentence).core(LATE + ";add 1 1 1;sub 1 1 1;move 2 1;set 3 3;skip 0 0 9 no")
                .calls("fetch=0 fetch=1 fetch=2 fetch=3 fetch=4 entry(3,8)=1 entry(2,8)=1 entry(1,8)=1 entry(0,8)=1 entry(4,8)=0");
    }

    private static void running() {
        String sentence = "RUN of an ENTRY that isn't DONE, whose CELLS, read, are READY: it is DONE; its NEW CELL has the value,"
                        + " and is READY;";
        Edge.of("III", sentence).core(LATE + ";set 1 9999;set 2 0;add 3 1 2;sub 4 2 1")
                .calls("fetch=0 fetch=1 fetch=2 fetch=3 run(2)!5 run(3)!5 run(0)=0 run(2)!5 run(3)!5 entry(0,4)=1 cell(8,0)=9999"
                        + " run(0)!5 run(1)=0 cell(9,0)=0 run(3)=0 cell(11,0)=1 ready=3071 run(2)=0 cell(10,0)=9999 ready=4095");
        // CELL 0 is as any other: read before it is READY, and with a value
        Edge.of("III", sentence).core("core cells 10 window 6 saves 0 share 1 late;set 0 5;set 1 6;add 2 1 1")
                .calls("fetch=0 run(0)=0 commit=0 fetch=1 entry(0,1)=0 ready=510 fetch=2 entry(1,2)=0 runnable=1 run(1)!5"
                        + " run(0)=0 cell(0,0)=6 run(1)=0 cell(9,0)=12");
        Edge.of("III", sentence).core("core cells 12 window 6 saves 0 share 2 late;set 1 5;move 2 1")
                .calls("fetch=0 fetch=1 run(1)!5 run(0)=0 run(1)!5 cell(8,0)=5");
        Edge trap = Edge.of("III", "a div by 0 (DONE, too) has TRAPPED instead.").core(LATE + ";div 1 0 0;add 2 1 1");
        trap.calls("fetch=0 fetch=1 entry(0,5)=0 run(0)=0 entry(0,4)=1 entry(0,5)=1 cell(8,0)=-2 ready=255 run(0)!5 run(1)!5"
                        + " entries=2 nextStep=2");
    }

    private static void missing() {
        Edge.of("III", "A skip gives up its SAVE;").core(LATE + ";skip 0 0 1 yes;skip 0 0 0 no;set 1 1")
                .calls("fetch=0 fetch=1 fetch=2 size(9)=2 run(0)=0 entry(0,7)=0 size(9)=1 saved(0,0)=-2 run(1)=1 entry(1,7)=0"
                        + " size(9)=0");
        String sentence = "if what is next isn't as guessed, it is a MISS: all younger ENTRIES are taken out, and NEXT is what is"
                        + " next.";
        Edge.of("III", sentence).core(LATE + ";skip 0 0 4 no;set 1 1;set 2 2;set 3 3;set 4 4")
                .calls("fetch=0 fetch=1 fetch=2 run(2)=0 run(0)=2 entries=1 nextStep=4 free=3840 ready=767 mapped(2)=2 fetch=4"
                        + " entry(1,1)=8 ready=767");
        Edge.of("III", sentence).core(LATE + ";set 1 1;skip 0 1 0 yes")
                .calls("fetch=0 fetch=1 fetch=0 nextStep=1 run(0)=0 run(1)=1 nextStep=2 entries=2");
        Edge.of("III", sentence).core(LATE + ";skip 0 0 24 no").calls("fetch=0 nextStep=1 run(0)=0 nextStep=24 entries=1 fetch!6");
        // the same STEP either way: as guessed, whatever the registers are
        Edge.of("III", sentence).core(LATE + ";skip 0 0 1 no;set 1 1;skip 0 1 3 yes;set 2 2")
                .calls("fetch=0 fetch=1 fetch=2 fetch=3 run(0)=0 entries=4 run(1)=0 run(2)=0 entries=4 nextStep=4");
        Edge.of("III", sentence).core(LATE + ";skip 0 0 2 yes;set 1 1;set 2 2")
                .calls("fetch=0 fetch=2 run(0)=0 entries=2 nextStep=3");
        // nothing of those taken out is left on who comes in their place
        Edge.of("III", sentence)
                .core("core cells 12 window 6 saves 2 share 2 late;skip 0 0 4 no;move 1 2;skip 0 0 9 no;div 5 0 0;set 3 3;set 4"
                        + " 4;set 5 5").calls("fetch=0 fetch=1 fetch=2 fetch=3 run(3)=0 entry(1,6)=1 entry(2,7)=1 entry(3,5)=1"
                        + " run(0)=3 fetch=4 fetch=5 fetch=6")
                .calls("entry(1,4)=0 entry(1,6)=0 entry(1,8)=1 entry(2,7)=0 entry(2,8)=1 entry(3,4)=0 entry(3,5)=0 entry(3,8)=1"
                        + " runnable=14");
    }

    private static void committing() {
        String sentence = "COMMIT of the oldest, if it is DONE and (MERGED) its NEW CELL READY: it is taken out; its NEW CELL (of"
                        + " a skip none) is KEPT for its register.";
        Edge.of("III", sentence).core(LATE + ";set 1 5;skip 0 0 2 yes;set 1 6")
                .calls("fetch=0 fetch=1 fetch=2 run(1)=0 run(2)=0 commit!5 run(0)=0 commit=0 entries=2 entry(0,0)=1 entry(1,0)=2"
                        + " kept(1)=8 value(1)=5 commit=1 kept(1)=8 kept(0)=0 kept(7)=7 entries=1 commit=2 kept(1)=9 value(1)=6"
                        + " entries=0");
        Edge.of("III", sentence).core("core cells 12 window 6 saves 0 share 2 late;set 1 5;move 2 1")
                .calls("fetch=0 fetch=1 commit!5 run(0)=0 commit=0 commit=1 kept(1)=8 kept(2)=8 value(2)=5 cell(8,1)=2");
        Edge.of("III", sentence).core("core cells 12 window 6 saves 0 share 2 late;move 2 1;set 1 5")
                .calls("fetch=0 commitable=0 commit=0 kept(2)=1 value(2)=0");
    }

    private static void stopping() {
        String sentence = "If it has TRAPPED, all ENTRIES are taken out, and the CORE STOPS: NEXT is that STEP.";
        Edge.of("III", sentence).core(LATE + ";set 1 5;div 2 1 0;set 3 3;skip 0 0 9 yes")
                .calls("fetch=0 fetch=1 fetch=2 fetch=3 nextStep=9 run(0)=0 run(1)=0 run(2)=0 size(10)=0 commit=0 size(10)=0"
                        + " commit=-2 entries=0 size(10)=1 nextStep=1 size(9)=0 free=3586 kept(2)=2 kept(3)=3 fetch!5");
        Edge.of("III", sentence).core(LATE + ";div 7 0 0")
                .calls("fetch=0 run(0)=0 commit=-2 nextStep=0 entries=0 size(8)=0 free=3840 value(7)=0");
        Edge.of("III", sentence)
                .core("core cells 12 window 6 saves 2 share 2 late;div 1 0 0;move 2 3;skip 0 0 9 no;set 4 4;set 5 5;set 6 6")
                .calls("fetch=0 fetch=1 fetch=2 run(0)=0 commit=-2 resume(3)=1 fetch=3 fetch=4 fetch=5")
                .calls("entry(0,4)=0 entry(0,5)=0 entry(0,8)=1 entry(1,4)=0 entry(1,6)=0 entry(2,7)=0 entry(2,8)=1 runnable=7");
        // a TRAP that a MISS takes out is none
        Edge.of("III", sentence).core(LATE + ";skip 0 0 2 no;div 1 0 0;set 2 2")
                .calls("fetch=0 fetch=1 run(1)=0 entry(1,5)=1 run(0)=1 commit=0 size(10)=0 fetch=2 run(0)=0 commit=2 agrees=1");
    }
}
