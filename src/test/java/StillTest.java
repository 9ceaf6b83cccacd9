/**
 * Calls that only tell leave all as it is, and ACTS leave THE TAPE, the FAULT and the text. Each state is made
 * twice; one object is asked, and from then on both answer the same: now, undone, gone back, and told anew.
 */
public final class StillTest {
    private static final String NEXT_TEXT = "core cells 9 window 2 saves 0 share 1 late;set 1 5;set 2 6";

    /** Rows of calls behind a text; !text is fed, and stays on THE TAPE. */
    private static final String[][] STATES = {
        {""},
        {"", "!" + NEXT_TEXT},
        {"core cells 24 window 12 saves 4 share 4 late;set 1 5;unsure 0 6;got 1 6"},
        {"core cells 11 window 6 saves 1 share 2 early;set 1 5;move 2 1;skip 1 2 4 no;set 3 7;set 4 8;div 5 1 1;unsure 0 6;got 1 6",
            "core(0) image() fetch() fetch() image() fetch() fetch() run(3) run(0) image() commit()", "!" + NEXT_TEXT},
        {"core cells 9 window 4 saves 0 share 1 early;set 1 5;set 2 6;add 1 2 1;skip 0 0 0 yes;unsure 1 6;unsure 0 3;got 2 6;got 1 1",
            "fetch() fetch() fetch() fetch() run(1) run(3) image()", "!core cells x"},
        {"core cells 12 window 4 saves 2 share 3 late;skip 0 0 0 yes", "fetch() fetch() fetch() fetch() run(2) run(0) commit()"},
        {"core cells 12 window 4 saves 2 share 3 late;set 1 5;div 1 1 2;move 3 1;got 1 5",
            "fetch() image() fetch() fetch() run(0) commit() run(0) commit() image()", "!" + NEXT_TEXT},
        {"core cells 10 window 3 saves 2 share 3 early;div 1 1 2;move 3 1", "fetch() run(0) commit() resume(1) fetch()"}
    };

    private static final String[] ASKED = {
        "fault", "where", "plainSteps", "plainEnd", "plainAt", "plainStep", "plainMisses", "value", "kept", "mapped", "letGo",
        "cell", "free", "ready", "entries", "entry", "runnable", "nextStep", "fetchable", "commitable", "walked", "saved", "gives",
        "agrees", "cycles", "commits", "misses", "crowd", "cellsFor", "rate", "fits", "fitAt", "could", "surely", "ask", "askLeaves",
        "judge", "drawnCommits", "drawnValue", "led", "size", "trouble"
    };
    private static final int[][] NUMBERS = {
        {0, 0, 0}, {1, 0, 1}, {1, 1, 300}, {2, 40, 300}, {3, 4, 60}, {9, 1, 5}, {10, 300, 0}, {24, 8, 0}, {200, 12, 0}, {-1, -1, -1},
        {Integer.MAX_VALUE, Integer.MAX_VALUE, Integer.MAX_VALUE}
    };
    private static final String[] ACTS = {
        "fetch()", "run(0)", "run(1)", "run(2)", "run(3)", "commit()", "resume(0)", "resume(25)", "undo()", "image()", "back(0)", "back(2)"
    };

    private StillTest() {
    }

    public static void main(String[] args) {
        for (String[] state : STATES) {
            for (String call : ASKED) {
                asked(state, call);
            }
            for (String act : ACTS) {
                acted(state, act);
            }
            fed(state);
        }
        Check.end("StillTest");
    }

    private static void asked(String[] state, String call) {
        String due = allThatComes(made(state));
        for (int[] numbers : NUMBERS) {
            RenamedCells x = made(state);
            Twin.real(x, call, new int[] {numbers[0], numbers[1], numbers[2], 0, 0});
            String row = state[0] + ": " + call + "(" + numbers[0] + "," + numbers[1] + "," + numbers[2] + ") leaves all as it is";
            Check.due(row, allThatComes(x).equals(due), true);
        }
    }

    private static void acted(String[] state, String act) {
        RenamedCells still = made(state);
        RenamedCells x = made(state);
        play(x, act);
        String row = state[0] + ": " + act + " leaves the text and THE TAPE";
        for (int what = 0; what <= 13; what++) {
            if (what < 8 || what == 13) {
                Check.due(row + ", size(" + what + ")", x.size(what), still.size(what));
            }
        }
        Check.due(row + ", fault()", x.fault(), still.fault());
        Check.due(row + ", FITS", x.fits(), still.fits());
        Check.due(row + ", cycles(9)", x.cycles(9), still.cycles(9));
        Check.due(row + ", told anew", toldAnew(x).equals(toldAnew(still)), true);
    }

    /** core(0) empties THE TAPE and leaves the CORE, so that nothing else is left of the feed. */
    private static void fed(String[] state) {
        RenamedCells still = made(state);
        RenamedCells x = made(state);
        x.feed(1, 2, 3, 4, 5);
        String row = state[0] + ": feed leaves the CORE";
        Check.due(row, x.core(0), still.core(0));
        Check.due(row, allThatComes(x).equals(allThatComes(still)), true);
    }

    private static RenamedCells made(String[] state) {
        RenamedCells x = new RenamedCells();
        if (!state[0].isEmpty()) {
            Check.tell(x, state[0]);
        }
        for (int k = 1; k < state.length; k++) {
            if (state[k].startsWith("!")) {
                Check.feed(x, state[k].substring(1));
            } else {
                play(x, state[k]);
            }
        }
        return x;
    }

    private static void play(RenamedCells x, String calls) {
        for (String call : calls.split(" ")) {
            int[] numbers = call.endsWith("()") ? new int[5] : Check.numbers(call);
            Twin.real(x, call.substring(0, call.indexOf('(')), numbers);
        }
    }

    private static String allThatComes(RenamedCells x) {
        StringBuilder s = new StringBuilder(Check.seen(x));
        while (x.undo()) {
            s.append("; undone ").append(Check.seen(x));
        }
        for (int image = 0; image < 3 && x.back(image); image++) {
            s.append("; back ").append(Check.seen(x));
        }
        return s.append(toldAnew(x)).toString();
    }

    private static String toldAnew(RenamedCells x) {
        int steps = x.core(x.size(13));
        String answers = "; told anew " + steps + " fault " + x.fault() + " at " + x.where();
        return steps > 0 ? answers + " " + Check.seen(x) : answers;
    }
}
