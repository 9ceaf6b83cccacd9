/** Promises 1 to 5: a new object, feed, core, fault, where. A ^ in a text marks the place that is due. */
public final class TextTest {
    private static final String HEAD = "core cells 9 window 2 saves 0 share 1 late";

    private TextTest() {
    }

    public static void main(String[] args) {
        newObject();
        feeding();
        telling();
        form();
        otherFaults();
        many();
        fineTexts();
        faultAndWhere();
        Check.end("TextTest");
    }

    private static void newObject() {
        RenamedCells x = new RenamedCells();
        Check.script("new", x, "trouble=0 fault=0 where=-1 trouble=0");
        for (int what = 0; what < 14; what++) {
            Check.due("new: size(" + what + ")", x.size(what), 0);
        }
        Check.script("new", x, "size(14)=-1 size(-1)=-1 trouble=0");
        String[] calls = {
            "plainSteps", "plainEnd", "plainAt(0,0)", "plainAt(9,9)", "plainStep(0)", "plainStep(-1)", "plainMisses",
            "value(0)", "kept(0)", "mapped(0)", "letGo", "cell(0,0)", "free", "ready", "entries", "entry(0,0)",
            "runnable", "nextStep", "fetchable", "commitable", "walked(0,0)", "saved(0,0)", "gives(0)", "agrees",
            "cycles(9)", "cycles(0)", "commits(9)", "misses(9)", "crowd(9)", "cellsFor(3)", "cellsFor(-1)",
            "rate(9,0)", "rate(9,1)", "fits", "fitAt(0)", "could", "surely", "ask", "askLeaves", "judge",
            "drawnCommits(0,0)", "drawnCommits(-1,0)", "drawnValue(0,0,0)", "fetch", "run(0)", "commit",
            "resume(0)", "resume(99)", "image", "back(0)"
        };
        for (String call : calls) {
            Check.script("no core", x, "undo!6 " + call + "!1");
        }
        Check.script("no core", x, "led(0)=throws led(-1)=throws undo!6 led(0)=throws trouble=6");
    }

    private static void feeding() {
        RenamedCells x = new RenamedCells();
        for (int k = 1; k <= 45; k++) {
            Check.due("feed " + k, x.feed(538976288, 538976288, 538976288, 538976288, 538976288), 20 * k);
            Check.due("bytes " + k, x.size(13), 20 * k);
        }
        Check.script("tape", x, "core(-1)!2 feed(0,0,0,0,0)=-1 trouble=2 size(13)=900 core(901)!2 size(13)=900");
        Check.script("tape", x, "core(900)!4 fault=1 where=900 size(13)=0 trouble=4 feed(0,0,0,0,0)=20 trouble=4");
        Check.script("tape", x, "core(20)!4 fault=1 where=0");
        fullOfTokens();
        RenamedCells y = new RenamedCells();
        int high = 'c' << 24 | 'o' << 16 | 'r' << 8 | 0xE9;
        y.feed(high, -1, -1, -1, -1);
        Check.script("bytes above 127", y, "core(3)!4 fault=1 where=0 size(13)=0");
        y.feed(0x20202020, -1, -1, -1, -1);
        Check.script("bytes above 127", y, "core(5)!4 fault=1 where=4");
    }

    private static void fullOfTokens() {
        RenamedCells x = new RenamedCells();
        int head = Check.feed(x, HEAD + ";set 1 5;got ");
        for (int k = head; k < 900; k += 20) {
            x.feed(0x31613161, 0x31613161, 0x31613161, 0x31613161, 0x31613161);
        }
        Check.script("tokens of one byte each", x, "size(13)=900 core(900)!4 fault=1 where=61");
        for (int k = 0; k < 45; k++) {
            x.feed(0x3b3b3b3b, 0x3b3b3b3b, 0x3b3b3b3b, 0x3b3b3b3b, 0x3b3b3b3b);
        }
        Check.script("900 tokens", x, "size(13)=900 core(900)!4 fault=1 where=0 size(13)=0");
    }

    private static void telling() {
        RenamedCells x = new RenamedCells();
        String text = HEAD + ";set 1 5;set 2 6";
        Check.feed(x, text + ";garbage here");
        int shorter = text.length();
        Check.due("only the first n bytes count", x.core(shorter), 2);
        Check.script("the rest is gone", x, "trouble=0 size(13)=0 size(5)=2 core(0)!4 fault=1 where=0 size(5)=2");
        Check.script("acts", x, "fetch=0 run(0)=0 commit=0 image=0 image=1 size(8)=1 size(11)=3 size(12)=2");
        Check.due("a text with a fault", Check.tell(x, "core"), -1);
        Check.script("the core stays", x, "size(8)=1 size(11)=3 size(12)=2 undo=1 back(1)=1 value(1)=5 core(1)!2");
        Check.feed(x, text);
        Check.script("the tape stays", x, "core(-1)!2 size(13)=60 core(61)!2 size(13)=60 fetch=1");
        Check.due("told again", x.core(shorter), 2);
        for (int k = 0; k < 3; k++) {
            Check.due("with all sorts of lines", Check.tell(x, text + ";unsure 0 1;unsure 1 1;got 1 1;got 2 6"), 2);
            Check.script("no more than told now", x, "size(5)=2 size(6)=2 size(7)=2 fits=1 fitAt(0)=1");
        }
        for (int k = 0; k < 3; k++) {
            Check.due("with none", Check.tell(x, text), 2);
            Check.script("no more than told now", x, "size(5)=2 size(6)=0 size(7)=0 fits=1 fitAt(0)=0 ask=-2");
        }
        Check.script("all anew", x, "size(8)=0 size(11)=0 size(12)=0 undo!6 back(0)!1 entries=0 value(1)=0 nextStep=0");
    }

    private static void fails(int fault, String marked) {
        int place = marked.indexOf('^');
        String text = marked.replace("^", "");
        RenamedCells x = new RenamedCells();
        Check.due(marked, Check.tell(x, text), -1);
        Check.due(marked + " trouble", x.trouble(), 4);
        Check.due(marked + " fault", x.fault(), fault);
        Check.due(marked + " where", x.where(), place);
        Check.due(marked + " tape", x.size(13), 0);
        Check.due(marked + " no core", x.size(0), 0);
    }

    private static void form() {
        String[] texts = {
            "^", "  ^", "^;", "^5", "^Core cells 9", "^corex cells 9", "^cells 9", "core^", "core ^cell 9", "core ^9",
            "core cells ^", "core cells ^;", "core cells ^nine", "core cells ^00009 window", "core cells 9^",
            "core cells 9 ^saves", "core cells 9 window 2 saves 0 share 1 ^soon", "core cells 9 window 2 saves 0 share 1^",
            HEAD + ";^", HEAD + "; ^", HEAD + ";^;", HEAD + " ^set 1 5", HEAD + ";set 1 5;^", HEAD + ";set 1 5;^;set 1 5",
            HEAD + ";set^", HEAD + ";set 1^", HEAD + ";set 1 ^10000", HEAD + ";set 1 ^yes", HEAD + ";set ^yes 1",
            HEAD + ";set 1 5 ^6", HEAD + ";set 1 5 ^set", HEAD + ";set 1 5^\u00e9", HEAD + ";set 1 5^\t;set 1 5",
            HEAD + ";set 1 5^\n", HEAD + ";set 1 ^-5", HEAD + ";set 1 ^+5", HEAD + ";set 1 5^,", HEAD + ";^sets 1 5",
            HEAD + ";^abcdefghi 1", HEAD + ";^jump 1", HEAD + ";^early", HEAD + ";add 1 2 ^;set 1 1", HEAD + ";add 1 2^",
            HEAD + ";sub 1 ^", HEAD + ";div ^", HEAD + ";move 1^", HEAD + ";move 1 2 ^3", HEAD + ";skip 0 0 1 ^maybe",
            HEAD + ";skip 0 0 1^", HEAD + ";skip 0 0 1 ^yesno", HEAD + ";skip 0 0 ^no", HEAD + ";skip 0 0 1 yes ^no",
            HEAD + ";set 1 5;unsure ^", HEAD + ";set 1 5;unsure 0 ^", HEAD + ";set 1 5;unsure 0 ^10000",
            HEAD + ";set 1 5;unsure ^12345 1", HEAD + ";set 1 5;got ^", HEAD + ";set 1 5;got 1 ^;", HEAD + ";set 1 5;got 1 2 ^3",
            HEAD + ";^Set 1 5", HEAD + ";^_", HEAD + ";set 1 5 ^{"
        };
        for (String text : texts) {
            fails(1, text);
        }
    }

    private static void otherFaults() {
        fails(2, HEAD + ";set 1 5;unsure ^1 3");
        fails(2, HEAD + ";set 1 5;unsure ^9999 3");
        fails(2, HEAD + ";unsure ^0 1;set 1 5");
        fails(2, HEAD + ";set 1 5;unsure ^1 3;set 2 5");
        for (String step : new String[] {"add 1 1 1", "sub 1 1 1", "div 1 1 1", "move 1 1", "skip 1 1 1 no"}) {
            fails(2, HEAD + ";" + step + ";unsure ^0 3");
        }
        fails(3, HEAD + ";set 1 5;unsure 0 1;unsure ^0 1");
        fails(3, HEAD + ";set 1 5;got 1 5;got ^1 6");
        fails(3, HEAD + ";^core");
        fails(3, HEAD + ";set 1 5;^core cells 9 window 2 saves 0 share 1 late");
        fails(4, "core cells ^8 window 2");
        fails(4, "core cells ^25");
        fails(4, "core cells ^9999");
        fails(4, "core cells 24 window ^1");
        fails(4, "core cells 24 window ^13");
        fails(4, "core cells 24 window 12 saves ^5");
        fails(4, "core cells 24 window 12 saves 4 share ^0");
        fails(4, "core cells 24 window 12 saves 4 share ^5");
        fails(4, HEAD + ";set ^8 1");
        fails(4, HEAD + ";set ^8 1;zzz");
        fails(4, HEAD + ";add ^8 1 1");
        fails(4, HEAD + ";add 1 ^8 1");
        fails(4, HEAD + ";sub 1 1 ^8");
        fails(4, HEAD + ";div 1 1 ^9999");
        fails(4, HEAD + ";move ^8 1");
        fails(4, HEAD + ";move 1 ^8");
        fails(4, HEAD + ";skip ^8 1 1 no");
        fails(4, HEAD + ";skip 1 ^8 1 no");
        fails(4, HEAD + ";skip 1 1 ^25 no");
        fails(4, HEAD + ";set 1 5;got ^8 1");
        fails(6, "^set 1 5");
        fails(6, "  ^got 1 5");
        fails(6, "^unsure 0 5");
        fails(6, "^skip zzz");
        fails(6, HEAD + "^");
        fails(6, HEAD + "  ^");
        fails(6, HEAD + ";got 1 1^");
    }

    private static void many() {
        String full = HEAD;
        for (int k = 0; k < 24; k++) {
            full += ";set 1 5";
        }
        RenamedCells x = Check.of(full + ";unsure 23 1;got 1 1");
        Check.script("24 steps", x, "size(5)=24 plainSteps=24 plainStep(24)=24");
        for (String step : new String[] {"set 1 5", "add 1 1 1", "sub 1 1 1", "div 1 1 1", "move 1 1", "skip 1 1 1 no", "set"}) {
            fails(5, full + ";^" + step);
        }
        String sets = HEAD + ";set 1 5;set 1 5;set 1 5;set 1 5;set 1 5";
        String unsure = sets + ";unsure 0 1;unsure 1 1;unsure 2 1;unsure 4 1";
        Check.script("4 unsure", Check.of(unsure), "size(6)=4");
        fails(5, unsure + ";^unsure 3 1");
        fails(5, unsure + ";^unsure 0 1");
        String got = sets + ";got 0 1;got 1 1;got 2 1;got 3 1;got 4 1;got 7 1";
        Check.script("6 got", Check.of(got), "size(7)=6");
        fails(5, got + ";^got 5 1");
        fails(5, got + ";^got 0 1");
    }

    private static void fineTexts() {
        Check.script("no blanks", Check.of("core cells9window2saves0share1late;set1 5"), "size(5)=1 plainAt(1,1)=5");
        Check.script("blanks", Check.of("  core  cells 0009 window 0012 saves 4 share 4 early ; set 1 0005 ;got 1 0  "),
                "size(0)=9 size(1)=12 size(2)=4 size(3)=4 size(4)=1 size(5)=1 size(7)=1 plainAt(1,1)=5 judge=0");
        Check.script("lines mixed", Check.of(HEAD + ";got 1 5;set 1 5;unsure 0 9999;set 2 9999;unsure 1 0;got 2 0"),
                "size(5)=2 size(6)=2 size(7)=2 fits=1 fitAt(0)=2");
        Check.script("a skip to a STEP that is not there", Check.of(HEAD + ";skip 0 0 24 yes"),
                "plainSteps=1 plainEnd=0 plainStep(1)=24");
    }

    private static void faultAndWhere() {
        RenamedCells x = new RenamedCells();
        Check.tell(x, HEAD + ";set 9 5");
        Check.script("fault", x, "fault=4 where=47 size(3)=0 where=47 led(0)=throws where=47 feed(1,1,1,1,1)=20 where=47");
        Check.script("fault", x, "core(21)!2 where=-1 fault=4 core(0)!4 where=0 fault=1 entries!1 where=-1 fault=1");
        Check.tell(x, HEAD + ";set 1 5");
        Check.script("no fault", x, "fault=0 where=-1 trouble=0 core(1)!2 fault=0 where=-1");
        Check.tell(x, "zzz");
        Check.script("a fault, then a call that isn't refused", x, "where=0 entries=0 where=-1 fault=1 trouble=0");
    }
}
