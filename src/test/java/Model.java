import java.util.ArrayList;
import java.util.List;
import java.util.regex.Matcher;
import java.util.regex.Pattern;

/**
 * The document's words a second time, in the slowest and plainest form, to compare the class with:
 * every term is found anew from its definition, states are copied whole, SAVES are rows.
 */
final class Model {
    static final class Fault extends Exception {
        final int number;
        final int place;

        Fault(int number, int place) {
            this.number = number;
            this.place = place;
        }
    }

    record Step(String sort, int target, int first, int second, int number, boolean yes) {
        int guess(int me) {
            return sort.equals("skip") && yes ? number : me + 1;
        }
    }

    record Pair(int a, int b) {
    }

    static final class Text {
        int cells;
        int window;
        int saves;
        int share;
        boolean early;
        final List<Step> steps = new ArrayList<>();
        final List<Pair> unsure = new ArrayList<>();
        final List<Pair> got = new ArrayList<>();
    }

    // ---- the text

    private static final class Scan {
        final String text;
        final List<String> token = new ArrayList<>();
        final List<Integer> place = new ArrayList<>();
        int at = 0;

        Scan(String text) {
            this.text = text;
            Matcher m = Pattern.compile("[a-z]+|[0-9]+|[^ ]", Pattern.DOTALL).matcher(text);
            while (m.find()) {
                token.add(m.group());
                place.add(m.start());
            }
        }

        String peek() {
            return at < token.size() ? token.get(at) : "";
        }

        int here() {
            return at < token.size() ? place.get(at) : text.length();
        }

        String word(String... these) throws Fault {
            for (String one : these) {
                if (peek().equals(one)) {
                    at++;
                    return one;
                }
            }
            throw new Fault(1, here());
        }

        int whole(int low, int high) throws Fault {
            if (!peek().matches("[0-9]{1,4}")) {
                throw new Fault(1, here());
            }
            int n = Integer.parseInt(peek());
            if (n < low || n > high) {
                throw new Fault(4, here());
            }
            at++;
            return n;
        }

        int register() throws Fault {
            return whole(0, 7);
        }
    }

    static Text parse(String text) throws Fault {
        Scan s = new Scan(text);
        Text t = new Text();
        boolean core = false;
        do {
            int place = s.here();
            String w = s.word("core", "set", "add", "sub", "div", "move", "skip", "unsure", "got");
            if (!w.equals("core") && !core) {
                throw new Fault(6, place);
            }
            if (w.equals("core")) {
                if (core) {
                    throw new Fault(3, place);
                }
                core = true;
                s.word("cells");
                t.cells = s.whole(9, 24);
                s.word("window");
                t.window = s.whole(2, 12);
                s.word("saves");
                t.saves = s.whole(0, 4);
                s.word("share");
                t.share = s.whole(1, 4);
                t.early = s.word("early", "late").equals("early");
            } else if (w.equals("unsure")) {
                parseUnsure(s, t, place);
            } else if (w.equals("got")) {
                parseGot(s, t, place);
            } else {
                if (t.steps.size() == 24) {
                    throw new Fault(5, place);
                }
                t.steps.add(parseStep(s, w));
            }
            if (s.here() == text.length()) {
                if (t.steps.isEmpty()) {
                    throw new Fault(6, text.length());
                }
                return t;
            }
            s.word(";");
        } while (true);
    }

    private static Step parseStep(Scan s, String w) throws Fault {
        switch (w) {
            case "set": {
                int r = s.register();
                return new Step(w, r, -1, -1, s.whole(0, 9999), false);
            }
            case "move": {
                int r = s.register();
                return new Step(w, r, s.register(), -1, 0, false);
            }
            case "skip": {
                int a = s.register();
                int b = s.register();
                int to = s.whole(0, 24);
                return new Step(w, -1, a, b, to, s.word("yes", "no").equals("yes"));
            }
            default: {
                int r = s.register();
                int a = s.register();
                return new Step(w, r, a, s.register(), 0, false);
            }
        }
    }

    private static void parseUnsure(Scan s, Text t, int line) throws Fault {
        if (t.unsure.size() == 4) {
            throw new Fault(5, line);
        }
        int place = s.here();
        int step = s.whole(0, 9999);
        if (step >= t.steps.size() || !t.steps.get(step).sort.equals("set")) {
            throw new Fault(2, place);
        }
        for (Pair p : t.unsure) {
            if (p.a == step) {
                throw new Fault(3, place);
            }
        }
        t.unsure.add(new Pair(step, s.whole(0, 9999)));
    }

    private static void parseGot(Scan s, Text t, int line) throws Fault {
        if (t.got.size() == 6) {
            throw new Fault(5, line);
        }
        int place = s.here();
        int r = s.register();
        for (Pair p : t.got) {
            if (p.a == r) {
                throw new Fault(3, place);
            }
        }
        t.got.add(new Pair(r, s.whole(0, 9999)));
    }

    // ---- the plain machine

    static final class PlainRun {
        final List<int[]> registers = new ArrayList<>();
        final List<Integer> steps = new ArrayList<>();
        int done = 0;
        int end = 0;
        int misses = 0;

        int[] last() {
            return registers.get(done);
        }
    }

    static PlainRun plain(Text t, int others) {
        PlainRun p = new PlainRun();
        int[] reg = new int[8];
        int next = 0;
        p.registers.add(reg.clone());
        p.steps.add(next);
        while (true) {
            if (next >= t.steps.size()) {
                p.end = 0;
                return p;
            }
            if (p.done == 200) {
                p.end = 2;
                return p;
            }
            Step s = t.steps.get(next);
            int behind = next + 1;
            if (s.sort.equals("skip")) {
                if (reg[s.first] == reg[s.second]) {
                    behind = s.number;
                }
                if (behind != s.guess(next)) {
                    p.misses++;
                }
            } else if (s.sort.equals("set")) {
                int n = s.number;
                for (int u = 0; u < t.unsure.size(); u++) {
                    if (t.unsure.get(u).a == next && (others & 1 << u) != 0) {
                        n = t.unsure.get(u).b;
                    }
                }
                reg[s.target] = n;
            } else if (s.sort.equals("div") && reg[s.second] == 0) {
                p.end = 1;
                return p;
            } else {
                reg[s.target] = reckon(s, reg[s.first], s.second < 0 ? 0 : reg[s.second]);
            }
            next = behind;
            p.done++;
            p.registers.add(reg.clone());
            p.steps.add(next);
        }
    }

    static int reckon(Step s, int a, int b) {
        switch (s.sort) {
            case "add": return (a + b) % 10000;
            case "sub": return ((a - b) % 10000 + 10000) % 10000;
            case "div": return a / b;
            case "move": return a;
            default: return s.number;
        }
    }

    // ---- the core

    static final class Entry {
        int step;
        int fresh = -2;
        int first = -2;
        int second = -2;
        boolean done;
        boolean trapped;
        boolean merged;
        int[] save;

        Entry copy() {
            Entry e = new Entry();
            e.step = step;
            e.fresh = fresh;
            e.first = first;
            e.second = second;
            e.done = done;
            e.trapped = trapped;
            e.merged = merged;
            e.save = save == null ? null : save.clone();
            return e;
        }

        boolean reads(int c) {
            return first == c || second == c;
        }
    }

    static final class State {
        final Text text;
        final int cells;
        int[] value;
        boolean[] ready;
        int[] kept = {0, 1, 2, 3, 4, 5, 6, 7};
        boolean[] taken = new boolean[8];
        List<Entry> window = new ArrayList<>();
        int next = 0;
        boolean stops = false;
        boolean resumed = false;
        int committed = 0;
        int misses = 0;

        State(Text text, int cells) {
            this.text = text;
            this.cells = cells;
            value = new int[cells];
            ready = new boolean[cells];
            for (int c = 0; c < 8; c++) {
                ready[c] = true;
            }
        }

        State copy() {
            State s = new State(text, cells);
            s.value = value.clone();
            s.ready = ready.clone();
            s.kept = kept.clone();
            s.taken = taken.clone();
            for (Entry e : window) {
                s.window.add(e.copy());
            }
            s.next = next;
            s.stops = stops;
            s.resumed = resumed;
            s.committed = committed;
            s.misses = misses;
            return s;
        }

        Step step(Entry e) {
            return text.steps.get(e.step);
        }

        int mapped(int r) {
            int c = kept[r];
            for (Entry e : window) {
                if (e.fresh >= 0 && step(e).target == r) {
                    c = e.fresh;
                }
            }
            return c;
        }

        int[] map() {
            int[] m = new int[8];
            for (int r = 0; r < 8; r++) {
                m[r] = mapped(r);
            }
            return m;
        }

        boolean sure(int i) {
            for (int k = 0; k <= i; k++) {
                Entry e = window.get(k);
                String sort = step(e).sort;
                if ((sort.equals("skip") || sort.equals("div")) && !e.done || e.trapped) {
                    return false;
                }
            }
            return true;
        }

        boolean letGo(int r) {
            if (!text.early) {
                return false;
            }
            if (taken[r]) {
                return true;
            }
            boolean replaced = false;
            for (int i = 0; i < window.size(); i++) {
                Entry e = window.get(i);
                if (e.fresh == kept[r] || !e.done && e.reads(kept[r])) {
                    return false;
                }
                if (sure(i) && e.fresh >= 0 && step(e).target == r) {
                    replaced = true;
                }
            }
            return replaced;
        }

        int holders(int c) {
            int n = 0;
            for (Entry e : window) {
                n += e.fresh == c ? 1 : 0;
            }
            for (int r = 0; r < 8; r++) {
                n += kept[r] == c && !letGo(r) ? 1 : 0;
            }
            return n;
        }

        int freeCount() {
            return Integer.bitCount(free());
        }

        int free() {
            int bits = 0;
            for (int c = 0; c < cells; c++) {
                bits |= holders(c) == 0 ? 1 << c : 0;
            }
            return bits;
        }

        int saves() {
            int n = 0;
            for (Entry e : window) {
                n += e.save != null ? 1 : 0;
            }
            return n;
        }

        boolean merges() {
            Step s = text.steps.get(next);
            return s.sort.equals("move") && holders(mapped(s.first)) < text.share;
        }

        int fetchable() {
            if (stops) {
                return 1;
            }
            if (next >= text.steps.size()) {
                return 2;
            }
            if (window.size() == text.window) {
                return 3;
            }
            boolean skip = text.steps.get(next).sort.equals("skip");
            return !skip && !merges() && free() == 0 ? 4 : 0;
        }

        void fetch() {
            Step s = text.steps.get(next);
            Entry e = new Entry();
            e.step = next;
            if (s.first >= 0) {
                e.first = mapped(s.first);
            }
            if (s.second >= 0) {
                e.second = mapped(s.second);
            }
            if (s.sort.equals("skip")) {
                if (saves() < text.saves) {
                    e.save = map();
                }
            } else if (merges()) {
                e.fresh = e.first;
                e.merged = true;
                e.done = true;
            } else {
                int c = 0;
                while (holders(c) != 0) {
                    c++;
                }
                for (int r = 0; r < 8; r++) {
                    taken[r] = taken[r] || kept[r] == c;
                }
                e.fresh = c;
                ready[c] = false;
            }
            next = s.guess(next);
            window.add(e);
        }

        boolean canRun(int i) {
            Entry e = window.get(i);
            return !e.done && (e.first < 0 || ready[e.first]) && (e.second < 0 || ready[e.second]);
        }

        /** How many are taken out; below 0 (-1 less them) at a MISS. */
        int run(int i) {
            Entry e = window.get(i);
            Step s = step(e);
            int a = e.first < 0 ? 0 : value[e.first];
            int b = e.second < 0 ? 0 : value[e.second];
            e.done = true;
            if (s.sort.equals("skip")) {
                e.save = null;
                int then = a == b ? s.number : e.step + 1;
                if (then == s.guess(e.step)) {
                    return 0;
                }
                int out = 0;
                while (window.size() > i + 1) {
                    window.remove(i + 1);
                    out++;
                }
                next = then;
                misses++;
                return -1 - out;
            }
            if (s.sort.equals("div") && b == 0) {
                e.trapped = true;
                return 0;
            }
            value[e.fresh] = reckon(s, a, b);
            ready[e.fresh] = true;
            return 0;
        }

        int commitable() {
            if (window.isEmpty()) {
                return 1;
            }
            Entry e = window.get(0);
            if (!e.done) {
                return 2;
            }
            return e.merged && !ready[e.fresh] ? 3 : 0;
        }

        int commit() {
            Entry e = window.get(0);
            if (e.trapped) {
                window.clear();
                stops = true;
                next = e.step;
                return -2;
            }
            window.remove(0);
            if (e.fresh >= 0) {
                int r = step(e).target;
                if (taken[r] && kept[r] == e.fresh) {
                    throw new IllegalStateException("the same CELL is KEPT again for a taken register");
                }
                kept[r] = e.fresh;
                taken[r] = false;
            }
            committed++;
            return e.step;
        }

        int value(int r) {
            return letGo(r) ? -2 : value[kept[r]];
        }

        State without(int behind) {
            State s = copy();
            while (s.window.size() > behind + 1) {
                s.window.remove(s.window.size() - 1);
            }
            return s;
        }
    }

    // ---- what is counted

    /** Cycles, commits, misses, crowd. */
    static int[] cycles(Text t, int cells) {
        State s = new State(t, cells);
        int n = 0;
        int crowd = 0;
        while (n < 300 && !s.stops && !(s.window.isEmpty() && s.next >= t.steps.size())) {
            for (int k = 0; k < 2 && s.commitable() == 0; k++) {
                if (s.commit() == -2) {
                    break;
                }
            }
            for (int k = 0; k < 2; k++) {
                int i = 0;
                while (i < s.window.size() && !s.canRun(i)) {
                    i++;
                }
                if (i == s.window.size() || s.run(i) < 0) {
                    break;
                }
            }
            for (int k = 0; k < 2 && s.fetchable() == 0; k++) {
                s.fetch();
            }
            crowd = Math.max(crowd, cells - s.freeCount());
            n++;
        }
        return new int[] {n, s.committed, s.misses, crowd};
    }

    static List<Integer> fits(Text t) {
        List<Integer> all = new ArrayList<>();
        for (int m = 0; m < 1 << t.unsure.size(); m++) {
            if (judge(t, m) == -2) {
                all.add(m);
            }
        }
        return all;
    }

    static int judge(Text t, int others) {
        int[] reg = plain(t, others).last();
        for (int g = 0; g < t.got.size(); g++) {
            if (reg[t.got.get(g).a] != t.got.get(g).b) {
                return g;
            }
        }
        return -2;
    }

    /** The unsure one to ask for, and how many are left at most. */
    static int[] ask(Text t) {
        List<Integer> all = fits(t);
        int[] best = {-2, -2};
        for (int u = 0; u < t.unsure.size() && !all.isEmpty(); u++) {
            int with = 0;
            for (int m : all) {
                with += m >> u & 1;
            }
            int left = Math.max(with, all.size() - with);
            if (best[0] < 0 || left < best[1]) {
                best = new int[] {u, left};
            }
        }
        return best;
    }

    static State drawn(State now, int seed, int n) {
        State s = now.copy();
        long x = seed;
        for (int k = 0; k < n; k++) {
            x = (75 * x + 74) % 65537;
            if (x % 3 == 0) {
                if (s.fetchable() == 0) {
                    s.fetch();
                }
            } else if (x % 3 == 1) {
                if (!s.window.isEmpty()) {
                    x = (75 * x + 74) % 65537;
                    int i = (int) (x % s.window.size());
                    if (s.canRun(i)) {
                        s.run(i);
                    }
                }
            } else if (s.commitable() == 0) {
                s.commit();
            }
        }
        return s;
    }
}
