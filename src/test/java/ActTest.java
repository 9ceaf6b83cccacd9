/** Promises 43 to 52: acts, undoing, images, what is told. */
public final class ActTest {
    private static final String LATE = "core cells 12 window 4 saves 2 share 1 late";

    private ActTest() {
    }

    public static void main(String[] args) {
        fetchRunCommit();
        resuming();
        undoing();
        sixteenActs();
        images();
        ledOnes();
        sizes();
        troubles();
        Check.end("ActTest");
    }

    private static void fetchRunCommit() {
        RenamedCells x = Check.of(LATE + ";set 1 5;skip 1 1 3 no;set 2 2;move 3 1");
        Check.script("acts", x, "commit!6 run(0)!1 fetch=0 fetch=1 fetch=2 fetch=3 fetchable=2 fetch!6 run(3)!5 run(4)!1 run(-1)!1 commit!5 size(11)=4");
        Check.script("refused ones change nothing", x, "entries=4 nextStep=4 size(8)=0 runnable=5");
        Check.script("a miss", x, "run(2)=0 run(2)!5 run(0)=0 run(1)=2 trouble=0 entries=2 nextStep=3 commit=0 commit=1 trouble=0 commit!6 fetch=3 commit!5 run(0)=0 commit=3");
        Check.script("the end", x, "fetch!6 fetchable=2 agrees=1 size(8)=3 value(3)=5 value(2)=0");
        RenamedCells y = Check.of(LATE + ";skip 0 0 0 no;set 1 1;set 2 2;set 3 3");
        Check.script("a miss takes out all younger ones", y, "fetch=0 fetch=1 fetch=2 fetch=3 run(2)=0 run(0)=3 entries=1 nextStep=0 free=3840 ready=767");
    }

    private static void resuming() {
        RenamedCells x = Check.of(LATE + ";set 1 8;div 2 1 0;set 3 4");
        Check.script("a core that goes on", x, "resume(0)!5 resume(24)!5 resume(25)!2 resume(-1)!2");
        Check.script("to a trap", x, "fetch=0 fetch=1 fetch=2 run(0)=0 run(1)=0 commit=0 commit=-2 trouble=0 size(10)=1 fetch!5 commit!6 run(0)!1");
        Check.script("on", x, "agrees=1 resume(-1)!2 resume(25)!2 resume(2)=1 trouble=0 nextStep=2 size(10)=0 agrees=0 resume(2)!5 resume(25)!2 fetch=2");
        Check.script("undone", x, "undo=1 undo=1 size(10)=1 agrees=1 nextStep=1 resume(24)=1 nextStep=24 fetchable=2 fetch!6 agrees=0");
        Check.script("undone to ahead of the trap", x, "undo=1 undo=1 size(10)=0 entries=2 entry(0,5)=1 nextStep=3 resume(0)!5 commit=-2 resume(1)=1 fetch=1 run(0)=0 commit=-2 nextStep=1 size(8)=1");
    }

    private static void undoing() {
        RenamedCells x = Check.of("core cells 9 window 4 saves 1 share 1 early;set 1 5;skip 0 0 0 no;set 1 6;set 2 7");
        Check.script("undo", x, "undo!6 fetch=0 fetch=1 fetch=2 entry(2,1)=1 letGo=2 ready=253 entry(1,7)=1 saved(1,1)=8");
        Check.script("a run with a miss", x, "run(1)=1 entries=2 nextStep=0 size(9)=0 undo=1 trouble=0 entries=3 nextStep=3 size(9)=1 saved(1,1)=8 entry(1,4)=0 entry(2,1)=1");
        Check.script("a fetch", x, "undo=1 entries=2 nextStep=2 ready=255 free=2 letGo=2 cell(1,0)=0 size(11)=2");
        Check.script("a run", x, "run(0)=0 cell(8,0)=5 ready=511 undo=1 ready=255 cell(8,0)=-2 entry(0,4)=0 run(0)=0");
        Check.script("a commit", x, "commit=0 size(8)=1 kept(1)=8 undo=1 size(8)=0 kept(1)=1 entries=2 entry(0,0)=0 entry(0,4)=1");
        Check.script("all", x, "size(11)=3 undo=1 undo=1 undo=1 undo!6 size(11)=0 entries=0 free=256 ready=255 nextStep=0");
    }

    private static void sixteenActs() {
        RenamedCells x = Check.of(LATE + ";skip 0 0 0 yes");
        for (int k = 0; k < 20; k++) {
            Check.script("round " + k, x, "fetch=0 run(0)=0 commit=0");
        }
        Check.script("16 are kept", x, "size(11)=16 size(8)=20 fetch=0");
        for (int k = 0; k < 16; k++) {
            Check.script("undo " + k, x, "size(11)=" + (16 - k) + " undo=1");
        }
        // 61 ACTS less 16 are 45: 15 rounds.
        Check.script("none is left", x, "undo!6 size(8)=15 entries=0 fetch=0 size(11)=1 undo=1 undo!6");
    }

    private static void images() {
        RenamedCells x = Check.of(LATE + ";set 1 5;set 2 6;set 3 7");
        Check.script("images", x, "back(0)!1 size(12)=0 image=0 size(12)=1 fetch=0 run(0)=0 image=1 size(11)=2 undo=1 trouble=0 size(11)=1 entry(0,4)=0 image=2 image!3 size(12)=3");
        Check.script("gone back", x, "back(1)=1 trouble=0 entry(0,4)=1 size(11)=0 undo!6 size(12)=3 commit=0 size(8)=1 size(11)=1");
        Check.script("gone back", x, "back(0)=1 size(8)=0 entries=0 nextStep=0 ready=255 undo!6 back(2)=1 entries=1 entry(0,4)=0 back(3)!1 back(-1)!1 entries=1");
        Check.script("an image isn't changed by what comes", x, "run(0)=0 commit=0 fetch=1 back(2)=1 entries=1 entry(0,4)=0 size(8)=0 kept(1)=1");
        Check.script("a refused one leaves what can be undone", x, "run(0)=0 back(3)!1 size(11)=1 undo=1 entry(0,4)=0");
        RenamedCells y = Check.of(LATE + ";div 1 0 0");
        Check.script("stops, resumed", y, "image=0 fetch=0 run(0)=0 commit=-2 image=1 resume(0)=1 agrees=0 image=2 back(1)=1 size(10)=1 agrees=1 resume(0)=1 back(0)=1 agrees=1 size(10)=0 back(2)=1 agrees=0");
        RenamedCells z = Check.of("core cells 10 window 4 saves 0 share 1 early;set 1 5;set 2 6");
        Check.script("taken cells", z, "fetch=0 image=0 fetch=1 entry(1,1)=1 letGo=6 image=1 back(0)=1 letGo=2 free=514 ready=255 back(1)=1 letGo=6 ready=253");
    }

    private static void ledOnes() {
        RenamedCells x = Check.of(LATE + ";set 1 5;set 2 6;set 3 7");
        Check.script("led", x, "led(0)=throws fetch=0 fetch=1 fetch=2 led(0)=throws run(2)=0 led(0)=2 led(1)=throws run(0)=0 led(0)=0 led(1)=2 led(2)=throws"
                + " led(-1)=throws led(2147483647)=throws led(-2147483648)=throws commit=0 led(0)=1 led(1)=throws");
        Check.script("led leaves TROUBLE", x, "undo=1 led(0)=0 trouble=0 led(2)=throws trouble=0 core(-1)!2 led(0)=0 trouble=2 led(2)=throws trouble=2");
    }

    private static void sizes() {
        RenamedCells x = Check.of("core cells 24 window 12 saves 4 share 3 early;set 1 5;skip 0 0 2 no;skip 0 0 3 no;div 2 0 0;unsure 0 1;got 1 1;got 2 0");
        Check.script("told", x, "size(0)=24 size(1)=12 size(2)=4 size(3)=3 size(4)=1 size(5)=4 size(6)=1 size(7)=2 size(8)=0 size(9)=0 size(10)=0 size(11)=0 size(12)=0 size(13)=0");
        Check.script("none such", x, "size(14)=-1 size(-1)=-1 size(2147483647)=-1 size(-2147483648)=-1 trouble=0");
        Check.script("done", x, "feed(1,1,1,1,1)=20 size(13)=20 fetch=0 fetch=1 fetch=2 size(9)=2 run(0)=0 run(1)=0 size(9)=1 image=0 commit=0 commit=1 size(8)=2 size(11)=7 size(12)=1 size(9)=1");
        Check.script("stopped", x, "fetch=3 run(1)=0 run(0)=0 commit=2 commit=-2 size(10)=1 size(8)=3 size(9)=0");
        Check.script("late", Check.of("core cells 9 window 2 saves 0 share 1 late;set 1 5"), "size(0)=9 size(1)=2 size(2)=0 size(3)=1 size(4)=0");
    }

    private static void troubles() {
        RenamedCells x = Check.of(LATE + ";set 1 5");
        Check.script("kept by calls that no number is told of", x, "undo!6 fault=0 trouble=6 where=-1 trouble=6 size(0)=12 size(77)=-1 trouble=6 led(0)=throws trouble=6 feed(0,0,0,0,0)=20 trouble=6 trouble=6");
        String[] fine = {
            "plainSteps=1", "plainEnd=0", "plainAt(0,0)=0", "plainStep(0)=0", "plainMisses=0", "value(0)=0", "kept(0)=0", "mapped(0)=0",
            "letGo=0", "cell(0,0)=0", "free=3584", "ready=255", "entries=1", "entry(0,0)=0", "runnable=1", "nextStep=1", "fetchable=2",
            "commitable=2", "walked(0,0)=0", "saved(0,0)=-2", "gives(0)=0", "agrees=1", "cycles(9)=3", "commits(9)=1", "misses(9)=0",
            "crowd(9)=9", "cellsFor(3)=9", "rate(9,0)=1", "fits=1", "fitAt(0)=0", "could=0", "surely=0", "ask=-2", "askLeaves=-2",
            "judge=-2", "drawnCommits(0,0)=0", "drawnValue(0,0,0)=0", "image=0", "back(0)=1"
        };
        Check.script("an entry", x, "undo!6 fetch=0 trouble=0");
        for (String call : fine) {
            Check.script("not refused", x, "core(-1)!2 " + call + " trouble=0");
        }
        Check.script("acts not refused", x, "core(-1)!2 run(0)=0 trouble=0 core(-1)!2 undo=1 trouble=0 run(0)=0 core(-1)!2 commit=0 trouble=0");
    }
}
