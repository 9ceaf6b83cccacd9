/** The constants, term I and promises 1 to 5: THE TAPE, texts, FAULTS. */
final class EdgeText {
    private static final String HEAD = "core cells 9 window 2 saves 0 share 1 late";
    private static final String SET = HEAD + ";set 1 5";

    private EdgeText() {
    }

    static void all() {
        constants();
        newObject();
        feedPlaces();
        feedFull();
        coreFirstBytes();
        coreAnew();
        coreRefused();
        faultOfTheLatest();
        whereIfByFour();
        blanks();
        words();
        everyLetter();
        wholes();
        otherBytes();
        lines();
        coreLine();
        stepLines();
        stepBounds();
        unsureLines();
        gotLines();
        leftmost();
        formFaults();
        notTold();
        already();
        outOfBounds();
        many();
        lacks();
    }

    static String times(int n, String line) {
        StringBuilder s = new StringBuilder();
        for (int k = 0; k < n; k++) {
            s.append(line);
        }
        return s.toString();
    }

    private static void constants() {
        Edge e = Edge.of("constants", "`NONE = -1`: There is none; refused.");
        Check.due("NONE", RenamedCells.NONE, -1);
        e.calls("entries=-1 fetch=-1 core(1)=-1 where=-1");
    }

    private static void newObject() {
        String[] refused = {
            "plainSteps", "plainEnd", "plainAt(0,0)", "plainStep(0)", "plainMisses", "value(0)", "kept(0)", "mapped(0)", "letGo",
            "cell(0,0)", "free", "ready", "entries", "entry(0,0)", "runnable", "nextStep", "fetchable", "commitable", "walked(0,0)",
            "saved(0,0)", "gives(0)", "agrees", "cycles(9)", "commits(9)", "misses(9)", "crowd(9)", "cellsFor(0)", "rate(9,0)",
            "rate(9,1)", "fits", "fitAt(0)", "could", "surely", "ask", "askLeaves", "judge", "drawnCommits(0,0)",
            "drawnValue(0,0,0)", "fetch", "run(0)", "commit", "resume(0)", "image", "back(0)"
        };
        Edge e = Edge.of(1, "No CORE.").calls("trouble=0 fault=0 where=-1 led(0)=throws trouble=0");
        for (int what = 0; what <= 13; what++) {
            e.calls("size(" + what + ")=0");
        }
        for (String call : refused) {
            e.refused(call + "!1");
        }
        e.refused("undo!6 core(1)!2 core(-1)!2").calls("core(0)!4 fault=1 where=0 size(0)=0");
    }

    // Nineteen blanks and an A: the place of the FAULT is the A's.
    private static void feedPlaces() {
        Edge e = Edge.of(2, "Twenty bytes come behind THE TAPE, of each number the highest first: how many it has;");
        for (int k = 0; k < 20; k++) {
            int[] five = {0x20202020, 0x20202020, 0x20202020, 0x20202020, 0x20202020};
            five[k / 4] ^= 0x61 << 24 - 8 * (k % 4);
            String numbers = five[0] + "," + five[1] + "," + five[2] + "," + five[3] + "," + five[4];
            String blanks = "feed(538976288,538976288,538976288,538976288,538976288)";
            e.calls("feed(" + numbers + ")=20 size(13)=20 core(20)!4 fault=1 where=" + k);
            e.calls(blanks + "=20 feed(" + numbers + ")=40 size(13)=40 core(40)!4 fault=1 where=" + (20 + k));
        }
        e.anew().calls("feed(0,0,0,0,0)=20 feed(-1,-1,-1,-1,-1)=40 feed(2147483647,-2147483648,0,1,-1)=60 size(13)=60");
    }

    private static void feedFull() {
        Edge e = Edge.of(2, "NONE, and none comes, if there would be more than 900.");
        e.fed(times(43, "                    ")).calls("size(13)=860 trouble=0");
        e.calls("feed(538976288,538976288,538976288,538976288,538976288)=880"
                        + " feed(538976288,538976288,538976288,538976288,538976288)=900");
        e.times(3, "feed(0,0,0,0,0)=-1 size(13)=900 trouble=0 where=-1");
        e.calls("core(900)!4 fault=1 where=900 size(13)=0 feed(0,0,0,0,0)=20 core(20)!4 where=0");
        String wide = "core cells 9 window 2 saves 0 share 1 late;set 1 57";
        String left = times(900 - wide.length(), " ");
        Edge.of("I", "THE TEXT of a CORE (THE TAPE has 900 bytes;").fed(left + wide)
                .calls("size(13)=900 core(901)!2 core(900)=1 plainAt(1,1)=57");
        Edge.of("I", "THE TEXT of a CORE (THE TAPE has 900 bytes;").fed(left + wide).calls("core(899)=1 plainAt(1,1)=5");
        Edge.of("I", "THE TEXT of a CORE (THE TAPE has 900 bytes;").fed(times(900, ";")).calls("core(900)!4 fault=1 where=0");
        Edge.of("I", "THE TEXT of a CORE (THE TAPE has 900 bytes;").fed(SET + times(900 - SET.length() - 1, " ") + "A")
                .calls("core(900)!4 fault=1 where=899");
    }

    private static void coreFirstBytes() {
        Edge.of(3, "The first n bytes of THE TAPE").fed(SET + "7;set 2 6;zzz").calls("core(" + SET.length() + ")=1 plainAt(1,1)=5");
        Edge.of(3, "The first n bytes of THE TAPE").fed(SET + "7;set 2 6;zzz")
                .calls("core(" + (SET.length() + 1) + ")=1 plainAt(1,1)=57");
        Edge.of(3, "The first n bytes of THE TAPE").fed(SET).calls("core(0)!4 fault=1 where=0 size(13)=0");
        Edge.of(3, "(it is empty then)").fed(SET).calls("size(13)=60 core(50)=1 size(13)=0 core(1)!2 core(0)!4")
                .anew().fed("zzz").calls("size(13)=20 core(3)!4 size(13)=0 core(1)!2");
        Edge.of(3, "how many STEPS.").fine(1, SET).fine(2, SET + ";set 2 5;got 1 1;unsure 0 1")
                .fine(24, HEAD + times(24, ";set 1 5"));
    }

    private static void coreAnew() {
        Edge.of(3, "are the CORE from now on").core(SET + ";unsure 0 6;got 1 6")
                .calls("fetch=0 run(0)=0 commit=0 cycles(9)=3 fits=1 fitAt(0)=1")
                .told("core cells 24 window 12 saves 4 share 4 early;move 1 0;set 2 2", 2)
                .calls("trouble=0 fault=0 size(0)=24 size(1)=12 size(2)=4 size(3)=4 size(4)=1 size(5)=2 size(6)=0 size(7)=0"
                        + " size(8)=0 size(10)=0"
                        + " entries=0 nextStep=0 kept(1)=1 value(1)=0 ready=255 free=16776960 letGo=0 cycles(9)=3 commits(9)=2"
                                + " fits=1 fitAt(0)=0 judge=-2 agrees=1");
        String all = SET + ";set 2 6;unsure 0 1;got 1 1";
        Edge.of(3, "are the CORE from now on").core(all).told(all, 2).told(all, 2)
                .calls("size(5)=2 size(6)=1 size(7)=1 fits=1 fitAt(0)=1 plainSteps=2")
                .told(all + ";set 3 3;unsure 1 1;got 2 2;got 9", -1).told(SET, 1)
                .calls("size(5)=1 size(6)=0 size(7)=0 fits=1 fitAt(0)=0 plainSteps=1").told(all, 2)
                .calls("size(5)=2 size(6)=1 size(7)=1");
        Edge.of(3, "are the CORE from now on").core(HEAD + ";div 1 0 0").calls("fetch=0 run(0)=0 commit=-2 resume(0)=1 agrees=0")
                .told(SET, 1).calls("agrees=1 size(10)=0 fetchable=0 resume(0)!5 fetch=0");
        Edge.of(3, "are the CORE from now on").core("core cells 9 window 4 saves 0 share 1 early;set 1 5;set 2 6")
                .calls("fetch=0 fetch=1 entry(1,1)=1 letGo=6")
                .told("core cells 9 window 4 saves 0 share 1 early;set 1 5;set 2 6", 2)
                .calls("letGo=0 free=256 value(1)=0 value(2)=0");
        Edge.of(3, "(nothing to undo, no IMAGES)").core(SET).calls("fetch=0 image=0 image=1 image=2 run(0)=0 size(11)=2 size(12)=3")
                .told(SET, 1)
                .calls("size(11)=0 size(12)=0 undo!6 back(0)!1 back(2)!1 image=0 fetch=0 size(11)=1 undo=1 undo!6");
    }

    private static void coreRefused() {
        Edge.of(3, "NONE: 2 (THE TAPE stays);").fed(SET).refused("core(-1)!2 core(61)!2 core(-2147483648)!2 core(2147483647)!2")
                .calls("size(13)=60 fault=0 where=-1 core(60)=1 plainAt(1,1)=5");
        Edge.of(3, "NONE: 2 (THE TAPE stays);").core(SET).calls("fetch=0 image=0").refused("core(1)!2 core(-1)!2")
                .calls("core(0)!4");
        Edge e = Edge.of(3, "4 (the CORE stays).")
                .core("core cells 12 window 4 saves 1 share 1 early;set 1 5;skip 0 0 4 no;set 1 7;set 2 2;unsure 0 6;got 1 6");
        String as = " size(0)=12 size(1)=4 size(2)=1 size(3)=1 size(4)=1 size(5)=4 size(6)=1 size(7)=1 size(8)=0 size(9)=1"
                        + " size(11)=3 size(12)=1"
                + " plainSteps=2 plainAt(1,1)=5 letGo=2 entries=2 entry(0,1)=8 entry(1,7)=1 nextStep=2 cycles(9)=3 fits=1"
                        + " fitAt(0)=1 judge=0";
        e.calls("fetch=0 fetch=1 run(0)=0 image=0" + as);
        e.told("core cells 24 window 2 saves 0 share 4 late;set 1 1;set 2 2;set 3 3;unsure 1 5;got 1 1;got 9 9", -1)
                .calls("trouble=4 fault=4" + as);
        e.told("", -1).calls("core(0)!4" + as).told("zzz", -1)
                .calls("undo=1 undo=1 back(0)=1 size(11)=0 entries=2 entry(0,4)=1 commit=0 value(1)=5");
    }

    private static void faultOfTheLatest() {
        Edge.of(4, "The FAULT of the latest core() not refused by 2;").calls("fault=0").told("set", -1)
                .calls("fault=6 core(1)!2 fault=6 core(-1)!2 fault=6")
                .told("zzz", -1).calls("fault=1 entries!1 fault=1 undo!6 fault=1 size(0)=0 fault=1").told(HEAD + ";set 8 1", -1)
                .calls("fault=4")
                .told(HEAD + ";unsure 0 1", -1).calls("fault=2").told(HEAD + ";core", -1).calls("fault=3")
                .told(HEAD + times(25, ";set 1 1"), -1).calls("fault=5");
        Edge.of(4, "0 without one.").calls("fault=0").told("zzz", -1).told(SET, 1)
                .calls("fault=0 core(1)!2 fault=0 fetch=0 fault=0");
    }

    private static void whereIfByFour() {
        Edge.of(5, "Its place, if the latest call that may be refused was by 4;").told(HEAD + ";set 8 1", -1)
                .calls("where=47 where=47 fault=4 trouble=4 size(0)=0 size(99)=-1 led(0)=throws feed(0,0,0,0,0)=20 where=47")
                .fed(times(44, "                    "))
                .calls("feed(0,0,0,0,0)=-1 where=47");
        String[] calls = {"core(901)!2", "entries!1", "undo!6", "fetch!1", "back(0)!1", "resume(0)!1", "plainAt(0,0)!1",
                        "rate(9,0)!1"};
        for (String call : calls) {
            Edge.of(5, "NONE else.").calls("where=-1").told("  zzz", -1).calls("where=2 " + call + " where=-1");
        }
        Edge.of(5, "NONE else.").told("zzz", -1).told(SET, 1).calls("where=-1").told("zzz", -1).calls("where=0 entries=0 where=-1")
                .told("zzz", -1)
                .calls("where=0 fetch=0 where=-1 undo=1 where=-1");
    }

    private static void blanks() {
        String rest = "cells 9 window 2 saves 0 share 1 late;set 1 5";
        Edge.of("I", "blanks, 32, part TOKENS and mean nothing else;")
                .fine(1, "   core   " + rest, "core " + rest + "    ", "core cells9window2saves0share1late;set1 5",
                        "core cells 9 window 2 saves 0 share 1 late ; set 1 5 ")
                .fails(1, "^co re " + rest, HEAD + ";^se t 1 5", SET + " ^5", SET + "; ^")
                .fails(4, "core cells ^1 0 window 2").fails(1, HEAD + ";set 1^");
        for (char other : new char[] {0, 1, 9, 10, 11, 12, 13, 31, 33, 127, 128, 160, 255}) {
            Edge.of("I", "blanks, 32, part TOKENS")
                    .fails(1, HEAD + ";set 1^" + other + "5", HEAD + ";set^" + other + "1 5", "^" + other + SET, SET + "^" + other);
        }
    }

    private static void words() {
        Edge.of("I", "TOKENS: WORDS of 1 to 8 small letters that stand together,")
                .fails(1, "^a", "^abcdefgh", "^abcdefghi", "^corecells 9", "^Core", "^coRe", "core^S", "core ^Cells", "^COREcells",
                        HEAD + "^R;set 1 5",
                        "core cells 9 window 2 saves 0 share 1 ^lateset 1 5", HEAD + ";^sets 1 5", HEAD + ";^se 1 5",
                                HEAD + ";^s 1 5", HEAD + ";^setsetset 1 5",
                        HEAD + ";set 1 ^abcdefghi", HEAD + ";skip 0 0 1 ^y", HEAD + ";skip 0 0 1 ^yess", HEAD + ";skip 0 0 1 ^nono",
                                        HEAD + ";skip 0 0 1 ^n");
    }

    // Each letter of each WORD counts: another in its place makes a WORD with which no CORE goes on.
    private static void everyLetter() {
        String text = "core cells 9 window 2 saves 0 share 1 early;set 1 5;add 1 1 1;sub 1 1 1;div 1 1 1;move 1 1;skip 1 1 1"
                        + " yes;skip 1 1 1 no;unsure 0 1;got 1 1";
        Edge e = Edge.of("I", "TOKENS: WORDS of 1 to 8 small letters that stand together,")
                .fine(7, text, text.replace("early", "late"));
        int word = 0;
        for (int k = 0; k < text.length(); k++) {
            word = k > 0 && Character.isLetter(text.charAt(k - 1)) ? word : k;
            if (Character.isLetter(text.charAt(k))) {
                for (char other : new char[] {'z', 'q', Character.toUpperCase(text.charAt(k)), (char) (text.charAt(k) + 128)}) {
                    e.fails(1, text.substring(0, word) + "^" + text.substring(word, k) + other + text.substring(k + 1));
                }
            }
        }
    }

    private static void wholes() {
        Edge.of("I", "WHOLES of 1 to 4 digits that do,")
                .fine(1, "core cells 0009 window 0012 saves 0000 share 0001 late;set 0007 0005", HEAD + ";set 1 9",
                        HEAD + ";set 1 99", HEAD + ";set 1 999", HEAD + ";set 1 9999")
                .fails(1, "core cells ^00009", "core cells ^99999", "core cells 9 window ^00002", HEAD + ";set ^00001 5",
                        HEAD + ";set ^12345 5", HEAD + ";set 1 ^00000",
                        HEAD + ";set 1 ^10000", HEAD + ";set 1 ^1234567890", SET + ";unsure ^00000 1", SET + ";unsure 0 ^00000",
                                        SET + ";got ^00001 1", SET + ";got 1 ^00001",
                        HEAD + ";skip 0 0 ^00001 no", SET + " ^12345");
        Edge.of("I", "WHOLES of 1 to 4 digits that do,").core(HEAD + ";set 1 0070").calls("plainAt(1,1)=70");
    }

    // Behind a whole text a digit goes on, a blank means nothing, ; wants a LINE, any other byte is at fault itself.
    private static void otherBytes() {
        for (int b = 0; b < 256; b++) {
            Edge e = Edge.of("I", "FORM: the first byte that begins no TOKEN,");
            boolean goesOn = b >= '0' && b <= '9' || b == ' ';
            if (goesOn) {
                e.fine(1, SET + (char) b);
            } else {
                e.fails(1, b == ';' ? SET + ";^" : SET + "^" + (char) b);
            }
            if (!goesOn) {
                e.fails(1, HEAD + ";set 1 ^" + (char) b, "core cells ^" + (char) b + "9");
            }
        }
    }

    private static void lines() {
        Edge.of("I", "single ones of ;").fails(1, "^;", "^;" + SET, HEAD + ";^;set 1 5", SET + ";^;", SET + ";^;set 1 5");
        Edge.of("I", "LINE {; LINE}.").fine(1, SET).fine(2, SET + ";set 1 5")
                .fails(1, "^", "   ^", SET + ";^", SET + "; ^", HEAD + " ^set 1 5", SET + " ^set 1 5");
        Edge.of("I", "LINE, one of:")
                .fails(1, "^jump", HEAD + ";^jump 1", HEAD + ";^cells 9", HEAD + ";^yes", HEAD + ";^5", HEAD + ";^late",
                        SET + ";^saves 1");
    }

    private static void coreLine() {
        String sentence = "core cells WHOLE window WHOLE saves WHOLE share WHOLE HOW (9 .. 24; 2 .. 12; 0 .. 4; 1 .. 4; HOW:"
                        + " early, or late)";
        Edge.of("I", sentence).core("core cells 9 window 2 saves 0 share 1 late;set 1 5")
                .calls("size(0)=9 size(1)=2 size(2)=0 size(3)=1 size(4)=0");
        Edge.of("I", sentence).core("core cells 24 window 12 saves 4 share 4 early;set 1 5")
                .calls("size(0)=24 size(1)=12 size(2)=4 size(3)=4 size(4)=1");
        Edge.of("I", sentence)
                .fails(4, "core cells ^0", "core cells ^8 window 2", "core cells ^25 window 2", "core cells ^9999",
                        "core cells 9 window ^0",
                "core cells 9 window ^1 saves", "core cells 9 window ^13 saves", "core cells 9 window 2 saves ^5 share",
                        "core cells 9 window 2 saves ^9999",
                "core cells 9 window 2 saves 0 share ^0 late", "core cells 9 window 2 saves 0 share ^5 late",
                        "core cells 9 window 2 saves 0 share ^9999");
        Edge.of("I", sentence)
                .fails(1, "core^", "core ^9", "core cells^", "core cells ^window", "core cells 9^", "core cells 9 ^9",
                        "core cells 9 ^saves", "core cells 9 window^",
                "core cells 9 window 2 ^share", "core cells 9 window 2 saves^", "core cells 9 window 2 saves 0 ^late",
                        "core cells 9 window 2 saves 0 share^",
                "core cells 9 window 2 saves 0 share 1^", "core cells 9 window 2 saves 0 share 1^;set 1 5",
                        "core cells 9 window 2 saves 0 share 1 ^soon",
                HEAD + " ^late", HEAD + " ^early", "core ^window 2", "core cells 9 window 2 saves 0 share ^early");
        Edge.of("I", ", ahead of all others").fails(6, "^set 1 5;" + HEAD).fails(3, SET + ";^" + HEAD);
    }

    private static void stepLines() {
        String sentence = "set R WHOLE, add R R R, sub R R R, div R R R, move R R, or skip R R WHOLE GUESS: the program's STEPS,"
                        + " numbered from 0";
        Edge.of("I", sentence)
                .core("core cells 24 window 12 saves 0 share 1 late;set 1 5;add 2 3 4;sub 2 3 4;div 2 3 4;move 2 3;skip 2 3 9"
                        + " no;skip 2 3 7 yes;set 0 1")
                .calls("size(5)=8 fetch=0 fetch=1 fetch=2 fetch=3 fetch=4 fetch=5 fetch=6 fetch=7 entry(0,0)=0 entry(7,0)=7"
                        + " nextStep=8 fetch!6");
        String[] shorts = {"set^", "set 1^", "add^", "add 1^", "add 1 2^", "sub^", "sub 1^", "sub 1 2^", "div^", "div 1^",
                        "div 1 2^", "move^", "move 1^", "skip^", "skip 1^", "skip 1 2^", "skip 1 2 3^"};
        for (String line : shorts) {
            Edge.of("I", sentence)
                    .fails(1, HEAD + ";" + line, HEAD + ";" + line + ";set 1 5", HEAD + ";" + line.replace("^", " ^") + "set 1 5");
        }
        String[] longs = {"set 1 2 ^3", "add 1 2 3 ^4", "sub 1 2 3 ^4", "div 1 2 3 ^4", "move 1 2 ^3", "skip 1 2 3 yes ^4",
                        "skip 1 2 3 no ^no", "skip 1 2 ^yes", "skip 1 2 3 ^4 yes"};
        for (String line : longs) {
            Edge.of("I", sentence).fails(1, HEAD + ";" + line);
        }
    }

    private static void stepBounds() {
        for (String r : new String[] {"0", "7"}) {
            Edge.of("I", "(R: a register, 0 .. 7;")
                    .fine(6, (HEAD + ";set R 0;add R R R;sub R R R;div R R R;move R R;skip R R 0 no;got R 0").replace("R", r));
        }
        String[] lines = {"set ^R 1", "add ^R 1 1", "add 1 ^R 1", "add 1 1 ^R", "sub ^R 1 1", "sub 1 ^R 1", "sub 1 1 ^R",
                        "div ^R 1 1", "div 1 ^R 1", "div 1 1 ^R",
            "move ^R 1", "move 1 ^R", "skip ^R 1 1 no", "skip 1 ^R 1 no", "set 1 1;got ^R 1"};
        for (String line : lines) {
            for (String r : new String[] {"8", "10", "9999"}) {
                Edge.of("I", "(R: a register, 0 .. 7;").fails(4, HEAD + ";" + line.replace("R", r));
            }
        }
        Edge.of("I", "0 .. 9,999;").core(HEAD + ";set 1 0;set 2 9999").calls("plainAt(1,2)=0 plainAt(2,2)=9999");
        Edge.of("I", "0 .. 9,999;").fails(1, HEAD + ";set 1 ^10000");
        Edge.of("I", "of skip a STEP, 0 .. 24;").core(HEAD + ";skip 0 0 24 yes").calls("plainStep(1)=24 fetch=0 nextStep=24");
        Edge.of("I", "of skip a STEP, 0 .. 24;").core(HEAD + ";skip 0 0 0 yes").calls("plainStep(1)=0 fetch=0 nextStep=0");
        Edge.of("I", "of skip a STEP, 0 .. 24;").fails(4, HEAD + ";skip 0 0 ^25 yes", HEAD + ";skip 0 0 ^9999 no")
                .fails(1, HEAD + ";skip 0 0 ^10000 no");
        Edge.of("I", "GUESS: yes, or no;").fine(2, HEAD + ";skip 0 0 1 yes;skip 0 0 1 no")
                .fails(1, HEAD + ";skip 0 0 1 ^maybe", HEAD + ";skip 0 0 1^", HEAD + ";skip 0 0 1 ^1");
        Edge.of("I", "up to 24)").fine(23, HEAD + times(23, ";set 1 5")).fine(24, HEAD + times(24, ";set 1 5"))
                .fails(5, HEAD + times(24, ";set 1 5") + ";^set 1 5");
    }

    private static void unsureLines() {
        String sets = HEAD + times(5, ";set 1 5");
        Edge.of("I", "unsure WHOLE WHOLE (a set told ahead, by its number;").fine(1, SET + ";unsure 0 1")
                .fine(24, HEAD + times(24, ";set 1 5") + ";unsure 23 1")
                .fails(2, SET + ";unsure ^1 1;set 1 5", HEAD + ";unsure ^0 1;set 1 5")
                .fails(1, SET + ";unsure^", SET + ";unsure 0^", SET + ";unsure 0 1 ^2", SET + ";unsure ^set 1");
        Edge.of("I", "unsure WHOLE WHOLE (a set told ahead, by its number;")
                .core(HEAD + ";set 1 5;add 2 1 1;set 3 6;unsure 2 7;got 3 7").calls("fits=1 fitAt(0)=1");
        Edge.of("I", "which may set that, 0 .. 9,999;").core(SET + ";unsure 0 0;got 1 0").calls("fits=1 fitAt(0)=1");
        Edge.of("I", "which may set that, 0 .. 9,999;").core(SET + ";unsure 0 9999;got 1 9999").calls("fits=1 fitAt(0)=1");
        Edge.of("I", "which may set that, 0 .. 9,999;").fails(1, SET + ";unsure 0 ^10000");
        Edge.of("I", "each once;").fine(5, sets + ";unsure 0 1;unsure 1 1")
                .fails(3, sets + ";unsure 0 1;unsure ^0 2", sets + ";unsure 4 1;unsure 0 1;unsure ^4 1");
        Edge.of("I", "up to 4),").core(sets + ";unsure 0 1;unsure 1 1;unsure 2 1;unsure 4 1").calls("size(6)=4 fits=16");
        Edge.of("I", "up to 4),").fails(5, sets + ";unsure 0 1;unsure 1 1;unsure 2 1;unsure 4 1;^unsure 3 1");
    }

    private static void gotLines() {
        String six = SET + ";got 0 0;got 1 5;got 2 0;got 3 0;got 4 0;got 7 0";
        Edge.of("I", "or got R WHOLE (what the PLAIN machine comes to, 0 .. 9,999;").core(HEAD + ";set 1 9999;got 1 9999;got 0 0")
                .calls("judge=-2 fits=1");
        Edge.of("I", "or got R WHOLE (what the PLAIN machine comes to, 0 .. 9,999;").fine(1, HEAD + ";got 1 1;set 1 5")
                .fails(1, SET + ";got 1 ^10000", SET + ";got^", SET + ";got 1^", SET + ";got 1 2 ^3", SET + ";got ^set");
        Edge.of("I", "each R once;").fine(1, SET + ";got 1 1;got 0 1")
                .fails(3, SET + ";got 1 1;got ^1 1", SET + ";got 7 1;got 0 1;got ^7 2");
        Edge.of("I", "up to 6)").core(six).calls("size(7)=6 fits=1 judge=-2");
        Edge.of("I", "up to 6)").fails(5, six + ";^got 5 0");
    }

    private static void leftmost() {
        String full = HEAD + times(24, ";set 1 5");
        Edge e = Edge.of("I", "FAULTS, the first that is met from the left,");
        e.fails(4, HEAD + ";set ^8 x", HEAD + ";got ^8 5;core", HEAD + ";skip 1 1 ^25 maybe", "core cells ^8 zzz",
                        HEAD + ";add 1 ^8 8");
        e.fails(1, HEAD + ";^jump 8", HEAD + ";set ^x 10000", SET + " ^x;core", "core ^x;core");
        e.fails(2, SET + ";unsure ^1 10000", SET + ";unsure ^1 x", HEAD + ";unsure ^0 1", HEAD + ";unsure ^0");
        e.fails(3, SET + ";unsure 0 1;unsure ^0 x", SET + ";got 1 1;got ^1 x", HEAD + ";got 1 5;^core", HEAD + ";^core cells 99");
        e.fails(5, full + ";^set 8 8", full + ";^skip x", full + ";^set;core");
        e.fails(6, "^set 9 9", "^got x", "^unsure 0 0", "^skip");
        Edge one = Edge.of("I", "of one place the least number:");
        one.fails(1, "^", HEAD + ";^", HEAD + ";got 1^", HEAD + ";got 1 1;^", "core^", "core cells 9^")
                .fails(2, SET + ";unsure ^9999 1");
    }

    private static void formFaults() {
        Edge.of("I", "1 FORM: the first byte that begins no TOKEN, or TOKEN with which no CORE goes on (the end: its place).")
                .fails(1, "^", "     ^", "core   ^", SET + ";   ^", SET + ";got^", SET + ";got 1   ^", SET + ";skip 1 1 1^",
                        SET + " ^late", SET + "^.", "^5", "^;");
    }

    private static void notTold() {
        Edge.of("I", "2 a STEP that isn't told (whatever the WHOLE),")
                .fails(2, HEAD + ";unsure ^0 1", SET + ";unsure ^1 1", SET + ";unsure ^24 1", SET + ";unsure ^25 1",
                SET + ";unsure ^9999 1", HEAD + times(24, ";set 1 5") + ";unsure ^24 1", SET + ";unsure ^1 1;set 2 2");
        for (String step : new String[] {"add 1 1 1", "sub 1 1 1", "div 1 1 1", "move 1 1", "skip 1 1 1 no", "skip 1 1 1 yes"}) {
            Edge.of("I", "or is no set (unsure); at it.")
                    .fails(2, HEAD + ";" + step + ";unsure ^0 1", SET + ";" + step + ";unsure ^1 1;set 1 1",
                            SET + ";" + step + ";unsure 0 1;unsure   ^1 1");
        }
    }

    private static void already() {
        Edge.of("I", "3 a set unsure already, a register got already; at it;")
                .fails(3, SET + ";unsure 0 1;unsure ^0 1", SET + ";unsure 0 1;got 1 1;unsure ^0000 2",
                SET + ";got 1 1;got ^1 1", SET + ";got 0 1;unsure 0 1;got   ^0 1");
        Edge.of("I", "a second core: at that WORD.")
                .fails(3, HEAD + ";^core", HEAD + ";  ^" + HEAD, SET + ";^core zzz", HEAD + ";got 1 1;^core cells 99");
    }

    private static void outOfBounds() {
        Edge.of("I", "4 a WHOLE out of bounds; at it.")
                .fails(4, "core cells   ^8", "core cells ^0008", "core cells ^0025", HEAD + ";set   ^8 5", HEAD + ";move 7 ^8",
                        HEAD + ";skip 7 7 ^0025 no",
                SET + ";got ^0008 1");
    }

    private static void many() {
        String full = HEAD + times(24, ";set 1 5");
        for (String step : new String[] {"set 1 5", "add 1 1 1", "sub 1 1 1", "div 1 1 1", "move 1 1", "skip 1 1 1 no"}) {
            Edge.of("I", "5 MANY: a LINE more of its sort than there is room for, at its first WORD.")
                    .fails(5, full + ";  ^" + step, full + ";unsure 0 1;got 1 1;^" + step,
                    HEAD + times(24, ";" + step) + ";^set 1 5");
        }
        String unsure = SET + times(4, ";set 1 5") + ";unsure 0 1;unsure 1 1;unsure 2 1;unsure 3 1";
        Edge e = Edge.of("I", "5 MANY: a LINE more of its sort than there is room for, at its first WORD.");
        e.fails(5, unsure + ";^unsure 4 1", unsure + ";  ^unsure 0 1", unsure + ";set 1 1;^unsure 99", unsure + ";^unsure");
        String got = SET + ";got 0 0;got 1 0;got 2 0;got 3 0;got 4 0;got 5 0";
        e.fails(5, got + ";^got 6 0", got + ";  ^got 0 0", got + ";set 1 1;^got 8", got + ";^got");
        e.fine(24, full + ";unsure 0 1;unsure 1 1;unsure 2 1;unsure 3 1;got 0 0;got 1 0;got 2 0;got 3 0;got 4 0;got 5 0");
    }

    private static void lacks() {
        for (String line : new String[] {"set 1 5", "add 1 1 1", "sub 1 1 1", "div 1 1 1", "move 1 1", "skip 1 1 1 no",
                        "unsure 0 1", "got 1 1"}) {
            Edge.of("I", "6 LACKS: any LINE ahead of the core; at its WORD;").fails(6, "^" + line, "   ^" + line + ";" + SET);
        }
        Edge.of("I", "at the end: no STEP.").fails(6, HEAD + "^", HEAD + "   ^", HEAD + ";got 1 1^", HEAD + ";got 1 1;got 2 2  ^")
                .fine(1, SET, HEAD + ";got 1 1;set 1 1");
    }
}
