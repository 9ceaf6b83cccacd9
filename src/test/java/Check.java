import java.nio.charset.StandardCharsets;
import java.util.NoSuchElementException;

/** What the tests share: feeding a text, comparing answers, counting what is wrong. */
final class Check {
    /** What led() is written as when it throws. */
    static final long THROWS = Long.MIN_VALUE;

    private static int wrong = 0;
    private static int asked = 0;

    private Check() {
    }

    static void due(String what, long got, long want) {
        asked++;
        if (got != want) {
            wrong++;
            if (wrong <= 40) {
                System.out.println(what + " answered " + got + ", due is " + want);
            }
        }
    }

    static void due(String what, boolean got, boolean want) {
        due(what, got ? 1 : 0, want ? 1 : 0);
    }

    static boolean isFine() {
        return wrong == 0;
    }

    static void end(String name) {
        System.out.println(name + ": " + asked + " answers, " + wrong + " not as due");
        if (wrong != 0) {
            System.exit(1);
        }
    }

    static byte[] bytes(String text) {
        return text.getBytes(StandardCharsets.ISO_8859_1);
    }

    /** Feeds a text, filled up by blanks to a number of twenties; how many bytes the last feed told. */
    static int feed(RenamedCells x, String text) {
        byte[] b = bytes(text);
        int told = 0;
        for (int at = 0; at < b.length; at += 20) {
            int[] five = new int[5];
            for (int k = 0; k < 20; k++) {
                int one = at + k < b.length ? b[at + k] & 255 : 32;
                five[k / 4] = five[k / 4] << 8 | one;
            }
            told = x.feed(five[0], five[1], five[2], five[3], five[4]);
        }
        return told;
    }

    static int tell(RenamedCells x, String text) {
        feed(x, text);
        return x.core(bytes(text).length);
    }

    static RenamedCells of(String text) {
        RenamedCells x = new RenamedCells();
        int steps = tell(x, text);
        if (steps < 1) {
            due("core of " + text + " (fault " + x.fault() + " at " + x.where() + ")", steps, 1);
        }
        return x;
    }

    static long led(RenamedCells x, int i) {
        try {
            return x.led(i);
        } catch (NoSuchElementException e) {
            return THROWS;
        }
    }

    /** What can be seen of an object, but for TROUBLE. */
    static String seen(RenamedCells x) {
        StringBuilder s = new StringBuilder();
        s.append("fault ").append(x.fault()).append(" sizes");
        for (int what = 0; what <= 13; what++) {
            s.append(' ').append(x.size(what));
        }
        if (x.size(0) == 0) {
            return s.toString();
        }
        s.append(" now ").append(x.nextStep()).append(' ').append(x.letGo()).append(' ').append(x.free());
        s.append(' ').append(x.ready()).append(' ').append(x.agrees()).append(" registers");
        for (int r = 0; r < 8; r++) {
            s.append(' ').append(x.kept(r)).append(':').append(x.mapped(r)).append(':').append(x.value(r));
        }
        s.append(" cells");
        for (int c = 0; c < x.size(0); c++) {
            s.append(' ').append(x.cell(c, 0));
        }
        for (int i = 0; i < x.entries(); i++) {
            s.append(" entry");
            for (int what = 0; what <= 8; what++) {
                s.append(' ').append(x.entry(i, what));
            }
        }
        s.append(" text ").append(x.plainSteps()).append(' ').append(x.plainEnd()).append(' ').append(x.fits());
        return s.toString();
    }

    /**
     * Calls in a row, parted by blanks, each written call(numbers)=answer, or call=answer without
     * numbers; true is 1, false 0, and led's exception is written throws. A call!n is refused by n.
     */
    static void script(String name, RenamedCells x, String calls) {
        for (String row : calls.trim().split("\\s+")) {
            boolean refused = row.indexOf('!') >= 0;
            String[] sides = row.split(refused ? "!" : "=");
            String call = sides[0].replaceAll("\\(.*", "");
            int[] a = numbers(sides[0]);
            long got = Twin.real(x, call, a);
            if (refused) {
                boolean isBoolean = call.equals("resume") || call.equals("undo") || call.equals("back");
                due(name + ": " + row, got, isBoolean ? 0 : -1);
                due(name + ": " + row + ", trouble()", x.trouble(), Long.parseLong(sides[1]));
            } else {
                due(name + ": " + row, got, sides[1].equals("throws") ? THROWS : Long.parseLong(sides[1]));
            }
        }
    }

    static int[] numbers(String call) {
        int[] a = new int[5];
        int open = call.indexOf('(');
        if (open >= 0) {
            String[] parts = call.substring(open + 1, call.length() - 1).split(",");
            for (int k = 0; k < parts.length; k++) {
                a[k] = Integer.parseInt(parts[k]);
            }
        }
        return a;
    }
}
