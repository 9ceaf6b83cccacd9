import java.util.Arrays;
import java.util.Random;

/** Drawn texts and drawn calls, the class against the Model; always the same ones. */
public final class ModelTest {
    private static final String[] ACTS = {
        "fetch", "fetch", "fetch", "run", "run", "run", "run", "commit", "commit", "undo", "resume", "image", "back"
    };

    private ModelTest() {
    }

    public static void main(String[] args) {
        for (int seed = 0; seed < 1500 && Check.isFine(); seed++) {
            calls(seed);
        }
        for (int seed = 0; seed < 20000 && Check.isFine(); seed++) {
            spoiltText(seed);
        }
        Check.end("ModelTest");
    }

    private static int pick(Random d, int... of) {
        return of[d.nextInt(of.length)];
    }

    static String drawText(Random d) {
        int registers = 2 + d.nextInt(7);
        if (registers > 8) {
            registers = 8;
        }
        int numbers = pick(d, 2, 3, 5, 10000);
        int steps = d.nextInt(10) == 0 ? 24 : 1 + d.nextInt(14);
        StringBuilder s = new StringBuilder();
        s.append("core cells ").append(pick(d, 9, 9, 10, 11, 12, 24, 9 + d.nextInt(16)));
        s.append(" window ").append(2 + d.nextInt(11)).append(" saves ").append(d.nextInt(5));
        s.append(" share ").append(1 + d.nextInt(4)).append(d.nextInt(3) == 0 ? " late" : " early");
        int[] setAt = new int[24];
        int sets = 0;
        for (int k = 0; k < steps; k++) {
            int a = d.nextInt(registers);
            int b = d.nextInt(registers);
            int c = d.nextInt(registers);
            s.append(';');
            switch (d.nextInt(9)) {
                case 0: case 1: case 2:
                    s.append("set ").append(a).append(' ').append(d.nextInt(numbers));
                    setAt[sets++] = k;
                    break;
                case 3: s.append("add " + a + " " + b + " " + c); break;
                case 4: s.append("sub " + a + " " + b + " " + c); break;
                case 5: s.append("div " + a + " " + b + " " + c); break;
                case 6: case 7: s.append("move " + a + " " + b); break;
                default:
                    int to = d.nextInt(6) == 0 ? d.nextInt(25) : Math.min(24, d.nextInt(steps + 2));
                    s.append("skip " + a + " " + b + " " + to + (d.nextBoolean() ? " yes" : " no"));
            }
        }
        for (int u = 0; u < 4 && u < sets && d.nextInt(4) > 0; u++) {
            s.append(";unsure ").append(setAt[u]).append(' ').append(d.nextInt(numbers));
        }
        for (int g = 0; g < 6 && g < registers && d.nextInt(3) > 0; g++) {
            s.append(";got ").append(g).append(' ').append(d.nextInt(Math.min(3, numbers)));
        }
        return s.toString();
    }

    private static int[] drawNumbers(Random d, String call) {
        int[] a = new int[5];
        for (int k = 0; k < 5; k++) {
            a[k] = d.nextInt(20) == 0
                    ? pick(d, -1, -2, 8, 9, 12, 13, 14, 24, 25, 300, 301, 65536, 65537,
                            Integer.MIN_VALUE, Integer.MAX_VALUE)
                    : d.nextInt(8);
        }
        boolean odd = d.nextInt(12) == 0;
        switch (call) {
            case "cycles": case "commits": case "misses": case "crowd": case "rate":
                a[0] = odd ? a[0] : 9 + d.nextInt(16);
                a[1] = d.nextInt(2);
                break;
            case "cellsFor": a[0] = odd ? a[0] : d.nextInt(30); break;
            case "plainAt": a[1] = odd ? a[1] : d.nextInt(30); break;
            case "plainStep": a[0] = odd ? a[0] : d.nextInt(30); break;
            case "cell":
                a[0] = odd ? a[0] : d.nextInt(25);
                a[1] = odd ? a[1] : d.nextInt(3);
                break;
            case "entry": a[1] = odd ? a[1] : d.nextInt(9); break;
            case "size": a[0] = odd ? a[0] : d.nextInt(15); break;
            case "drawnCommits":
                a[0] = odd ? a[0] : d.nextInt(65537);
                a[1] = odd ? a[1] : d.nextInt(301);
                break;
            case "drawnValue":
                a[1] = odd ? a[1] : d.nextInt(65537);
                a[2] = odd ? a[2] : d.nextInt(301);
                break;
            case "fitAt": a[0] = odd ? a[0] : d.nextInt(4); break;
            case "back": a[0] = odd ? a[0] : d.nextInt(3); break;
            case "core": a[0] = odd ? a[0] : d.nextInt(60); break;
            default:
        }
        return a;
    }

    private static void compare(String run, RenamedCells x, Twin y, String call, int[] a) {
        String name = run + " " + call + Arrays.toString(a);
        Check.due(name, Twin.real(x, call, a), y.answer(call, a));
        int[] none = new int[5];
        Check.due(name + " trouble", Twin.real(x, "trouble", none), y.answer("trouble", none));
        Check.due(name + " where", Twin.real(x, "where", none), y.answer("where", none));
    }

    private static void tell(String run, RenamedCells x, Twin y, String text) {
        compare(run, x, y, "core", new int[5]);
        byte[] b = Check.bytes(text);
        for (int at = 0; at < b.length; at += 20) {
            int[] five = new int[5];
            for (int k = 0; k < 20; k++) {
                five[k / 4] = five[k / 4] << 8 | (at + k < b.length ? b[at + k] & 255 : 32);
            }
            compare(run, x, y, "feed", five);
        }
        compare(run, x, y, "core", new int[] {b.length, 0, 0, 0, 0});
    }

    private static void calls(int seed) {
        Random d = new Random(seed);
        RenamedCells x = new RenamedCells();
        Twin y = new Twin();
        String run = "run " + seed + ":";
        for (int k = 0; k < 5; k++) {
            compare(run, x, y, Twin.CALLS[d.nextInt(Twin.CALLS.length)], new int[5]);
        }
        tell(run, x, y, drawText(d));
        for (int k = 0; k < 480; k++) {
            boolean act = d.nextInt(3) > 0;
            String call = act ? ACTS[d.nextInt(ACTS.length)] : Twin.CALLS[d.nextInt(Twin.CALLS.length)];
            if (call.equals("core") && d.nextInt(4) > 0) {
                continue;
            }
            if (d.nextInt(150) == 0) {
                tell(run, x, y, d.nextInt(3) == 0 ? drawSpoiltText(d) : drawText(d));
                continue;
            }
            if ((call.equals("undo") || call.equals("back")) && d.nextInt(4) > 0) {
                continue;
            }
            compare(run, x, y, call, drawNumbers(d, call));
        }
        everything(run, x, y);
    }

    /** All that can be looked at, of the state that a run has come to. */
    private static void everything(String run, RenamedCells x, Twin y) {
        for (String call : new String[] {"letGo", "free", "ready", "entries", "runnable", "fetchable", "agrees"}) {
            compare(run, x, y, call, new int[5]);
        }
        for (int i = 0; i < 12; i++) {
            compare(run, x, y, "gives", new int[] {i, 0, 0, 0, 0});
            compare(run, x, y, "led", new int[] {i, 0, 0, 0, 0});
            for (int r = 0; r < 9; r++) {
                compare(run, x, y, "walked", new int[] {i, r, 0, 0, 0});
                compare(run, x, y, "saved", new int[] {i, r, 0, 0, 0});
                compare(run, x, y, "entry", new int[] {i, r, 0, 0, 0});
            }
        }
        for (int c = 0; c < 24; c++) {
            for (int what = 0; what < 3; what++) {
                compare(run, x, y, "cell", new int[] {c, what, 0, 0, 0});
            }
        }
    }

    private static final String[] PIECES = {
        ";", " ", "core", "set", "add", "skip", "unsure", "got", "yes", "no", "early", "late", "0", "7", "8", "9",
        "24", "25", "9999", "10000", "abcdefgh", "abcdefghi", "A", "\u00e9", "\u0000", ";set 1 2", ";unsure 0 5",
        ";got 3 7", ";core", ";;", "\t", "-1"
    };

    private static String drawSpoiltText(Random d) {
        StringBuilder s = new StringBuilder(drawText(d));
        int times = d.nextInt(3);
        for (int k = 0; k <= times; k++) {
            int at = d.nextInt(s.length() + 1);
            switch (d.nextInt(4)) {
                case 0: s.insert(at, PIECES[d.nextInt(PIECES.length)]); break;
                case 1: s.delete(at, Math.min(s.length(), at + 1 + d.nextInt(6))); break;
                case 2: s.setLength(at); break;
                default:
                    s.delete(at, Math.min(s.length(), at + 1 + d.nextInt(3)));
                    s.insert(at, PIECES[d.nextInt(PIECES.length)]);
            }
        }
        return s.toString();
    }

    private static void spoiltText(int seed) {
        RenamedCells x = new RenamedCells();
        Twin y = new Twin();
        String text = drawSpoiltText(new Random(seed));
        String run = "text " + seed + " (" + text + "):";
        tell(run, x, y, text);
        for (String call : new String[] {"fault", "plainSteps", "fits"}) {
            compare(run, x, y, call, new int[5]);
        }
    }
}
