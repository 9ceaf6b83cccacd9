import java.util.ArrayDeque;
import java.util.ArrayList;
import java.util.Deque;
import java.util.List;

/** The face of RenamedCells over the Model; calls are told by their name and up to five numbers. */
final class Twin {
    static final String[] CALLS = {
        "feed", "core", "fault", "where", "plainSteps", "plainEnd", "plainAt", "plainStep", "plainMisses",
        "value", "kept", "mapped", "letGo", "cell", "free", "ready", "entries", "entry", "runnable",
        "nextStep", "fetchable", "commitable", "walked", "saved", "gives", "agrees", "cycles", "commits",
        "misses", "crowd", "cellsFor", "rate", "fits", "fitAt", "could", "surely", "ask", "askLeaves",
        "judge", "drawnCommits", "drawnValue", "fetch", "run", "commit", "resume", "undo", "image", "back",
        "led", "size", "trouble"
    };

    private final StringBuilder tape = new StringBuilder();
    private Model.Text text;
    private Model.State state;
    private final Deque<Model.State> past = new ArrayDeque<>();
    private final List<Model.State> images = new ArrayList<>();
    private int trouble = 0;
    private int fault = 0;
    private int place = 0;

    static long real(RenamedCells x, String call, int[] a) {
        switch (call) {
            case "feed": return x.feed(a[0], a[1], a[2], a[3], a[4]);
            case "core": return x.core(a[0]);
            case "fault": return x.fault();
            case "where": return x.where();
            case "plainSteps": return x.plainSteps();
            case "plainEnd": return x.plainEnd();
            case "plainAt": return x.plainAt(a[0], a[1]);
            case "plainStep": return x.plainStep(a[0]);
            case "plainMisses": return x.plainMisses();
            case "value": return x.value(a[0]);
            case "kept": return x.kept(a[0]);
            case "mapped": return x.mapped(a[0]);
            case "letGo": return x.letGo();
            case "cell": return x.cell(a[0], a[1]);
            case "free": return x.free();
            case "ready": return x.ready();
            case "entries": return x.entries();
            case "entry": return x.entry(a[0], a[1]);
            case "runnable": return x.runnable();
            case "nextStep": return x.nextStep();
            case "fetchable": return x.fetchable();
            case "commitable": return x.commitable();
            case "walked": return x.walked(a[0], a[1]);
            case "saved": return x.saved(a[0], a[1]);
            case "gives": return x.gives(a[0]);
            case "agrees": return x.agrees();
            case "cycles": return x.cycles(a[0]);
            case "commits": return x.commits(a[0]);
            case "misses": return x.misses(a[0]);
            case "crowd": return x.crowd(a[0]);
            case "cellsFor": return x.cellsFor(a[0]);
            case "rate": return x.rate(a[0], a[1] == 1);
            case "fits": return x.fits();
            case "fitAt": return x.fitAt(a[0]);
            case "could": return x.could();
            case "surely": return x.surely();
            case "ask": return x.ask();
            case "askLeaves": return x.askLeaves();
            case "judge": return x.judge();
            case "drawnCommits": return x.drawnCommits(a[0], a[1]);
            case "drawnValue": return x.drawnValue(a[0], a[1], a[2]);
            case "fetch": return x.fetch();
            case "run": return x.run(a[0]);
            case "commit": return x.commit();
            case "resume": return x.resume(a[0]) ? 1 : 0;
            case "undo": return x.undo() ? 1 : 0;
            case "image": return x.image();
            case "back": return x.back(a[0]) ? 1 : 0;
            case "led": return Check.led(x, a[0]);
            case "size": return x.size(a[0]);
            case "trouble": return x.trouble();
            default: throw new IllegalArgumentException(call);
        }
    }

    private static final class Refused extends Exception {
        final int why;

        Refused(int why) {
            this.why = why;
        }
    }

    private static void unless(boolean fine, int why) throws Refused {
        if (!fine) {
            throw new Refused(why);
        }
    }

    private static boolean among(int n, int low, int high) {
        return n >= low && n <= high;
    }

    private boolean isEntry(int i) {
        return state != null && among(i, 0, state.window.size() - 1);
    }

    long answer(String call, int[] a) {
        switch (call) {
            case "feed": return feed(a);
            case "fault": return fault;
            case "where": return trouble == 4 ? place : -1;
            case "led": return led(a[0]);
            case "size": return size(a[0]);
            case "trouble": return trouble;
            default:
        }
        try {
            long r = refusable(call, a);
            trouble = 0;
            return r;
        } catch (Refused e) {
            trouble = e.why;
            return call.equals("resume") || call.equals("undo") || call.equals("back") ? 0 : -1;
        }
    }

    private long feed(int[] a) {
        if (tape.length() + 20 > 900) {
            return -1;
        }
        for (int n : a) {
            for (int k = 3; k >= 0; k--) {
                tape.append((char) (n >>> 8 * k & 255));
            }
        }
        return tape.length();
    }

    private long led(int i) {
        List<Integer> done = new ArrayList<>();
        for (int k = 0; state != null && k < state.window.size(); k++) {
            if (state.window.get(k).done) {
                done.add(k);
            }
        }
        return among(i, 0, done.size() - 1) ? done.get(i) : Check.THROWS;
    }

    private long size(int what) {
        if (!among(what, 0, 13)) {
            return -1;
        }
        if (what == 13) {
            return tape.length();
        }
        if (text == null) {
            return 0;
        }
        int[] all = {
            text.cells, text.window, text.saves, text.share, text.early ? 1 : 0, text.steps.size(),
            text.unsure.size(), text.got.size(), state.committed, state.saves(), state.stops ? 1 : 0,
            past.size(), images.size()
        };
        return all[what];
    }

    private long core(int n) throws Refused {
        unless(among(n, 0, tape.length()), 2);
        String told = tape.substring(0, n);
        tape.setLength(0);
        try {
            text = Model.parse(told);
        } catch (Model.Fault f) {
            fault = f.number;
            place = f.place;
            throw new Refused(4);
        }
        fault = 0;
        state = new Model.State(text, text.cells);
        past.clear();
        images.clear();
        return text.steps.size();
    }

    private void act() {
        past.push(state.copy());
        if (past.size() > 16) {
            past.removeLast();
        }
    }

    private long refusable(String call, int[] a) throws Refused {
        switch (call) {
            case "core": return core(a[0]);
            case "undo":
                unless(!past.isEmpty(), 6);
                state = past.pop();
                return 1;
            case "back":
                unless(among(a[0], 0, images.size() - 1), 1);
                state = images.get(a[0]).copy();
                past.clear();
                return 1;
            default:
        }
        unless(text != null, 1);
        switch (call) {
            case "plainSteps": case "plainEnd": case "plainAt": case "plainStep": case "plainMisses":
                return plain(call, a);
            case "cycles": case "commits": case "misses": case "crowd": case "cellsFor": case "rate":
                return cycles(call, a);
            case "fits": case "fitAt": case "could": case "surely": case "ask": case "askLeaves": case "judge":
                return fits(call, a);
            case "drawnCommits":
                unless(among(a[0], 0, 65536) && among(a[1], 0, 300), 2);
                return Model.drawn(state, a[0], a[1]).committed - state.committed;
            case "drawnValue":
                unless(among(a[0], 0, 7), 1);
                unless(among(a[1], 0, 65536) && among(a[2], 0, 300), 2);
                return Model.drawn(state, a[1], a[2]).value(a[0]);
            case "fetch": case "run": case "commit": case "resume": case "image":
                return acts(call, a);
            default:
                return looks(call, a);
        }
    }

    private long plain(String call, int[] a) throws Refused {
        Model.PlainRun p = Model.plain(text, 0);
        switch (call) {
            case "plainSteps": return p.done;
            case "plainEnd": return p.end;
            case "plainAt":
                unless(among(a[0], 0, 7), 1);
                unless(among(a[1], 0, p.done), 2);
                return p.registers.get(a[1])[a[0]];
            case "plainStep":
                unless(among(a[0], 0, p.done), 2);
                return p.steps.get(a[0]);
            default: return p.misses;
        }
    }

    private long cycles(String call, int[] a) throws Refused {
        if (call.equals("cellsFor")) {
            unless(among(a[0], 0, 300), 2);
            for (int c = 9; c <= 24; c++) {
                if (Model.cycles(text, c)[0] <= a[0]) {
                    return c;
                }
            }
            return -2;
        }
        unless(among(a[0], 9, 24), 2);
        int[] all = Model.cycles(text, a[0]);
        switch (call) {
            case "cycles": return all[0];
            case "commits": return all[1];
            case "misses": return all[2];
            case "crowd": return all[3];
            default:
                int g = java.math.BigInteger.valueOf(all[1]).gcd(java.math.BigInteger.valueOf(all[0])).intValue();
                return (a[1] == 1 ? all[0] : all[1]) / g;
        }
    }

    private long fits(String call, int[] a) throws Refused {
        List<Integer> all = Model.fits(text);
        int some = 0;
        int each = all.isEmpty() ? 0 : -1;
        for (int m : all) {
            some |= m;
            each &= m;
        }
        switch (call) {
            case "fits": return all.size();
            case "fitAt":
                unless(among(a[0], 0, all.size() - 1), 1);
                return all.get(a[0]);
            case "could": return some;
            case "surely": return each;
            case "ask": return Model.ask(text)[0];
            case "askLeaves": return Model.ask(text)[1];
            default: return Model.judge(text, 0);
        }
    }

    private long acts(String call, int[] a) throws Refused {
        switch (call) {
            case "fetch": {
                int why = state.fetchable();
                unless(why == 0, why == 1 ? 5 : why == 2 ? 6 : 3);
                act();
                int step = state.next;
                state.fetch();
                return step;
            }
            case "run": {
                unless(isEntry(a[0]), 1);
                unless(state.canRun(a[0]), 5);
                act();
                int out = state.run(a[0]);
                return out < 0 ? -1 - out : out;
            }
            case "commit":
                unless(!state.window.isEmpty(), 6);
                unless(state.commitable() == 0, 5);
                act();
                return state.commit();
            case "resume":
                unless(among(a[0], 0, 24), 2);
                unless(state.stops, 5);
                act();
                state.stops = false;
                state.resumed = true;
                state.next = a[0];
                return 1;
            default:
                unless(images.size() < 3, 3);
                images.add(state.copy());
                return images.size() - 1;
        }
    }

    private long looks(String call, int[] a) throws Refused {
        Model.State s = state;
        int bits = 0;
        switch (call) {
            case "value":
                unless(among(a[0], 0, 7), 1);
                return s.value(a[0]);
            case "kept":
                unless(among(a[0], 0, 7), 1);
                return s.kept[a[0]];
            case "mapped":
                unless(among(a[0], 0, 7), 1);
                return s.mapped(a[0]);
            case "letGo":
                for (int r = 0; r < 8; r++) {
                    bits |= s.letGo(r) ? 1 << r : 0;
                }
                return bits;
            case "cell": return cell(a[0], a[1]);
            case "free": return s.free();
            case "ready":
                for (int c = 0; c < s.cells; c++) {
                    bits |= s.ready[c] ? 1 << c : 0;
                }
                return bits;
            case "entries": return s.window.size();
            case "entry": return entry(a[0], a[1]);
            case "runnable":
                for (int i = 0; i < s.window.size(); i++) {
                    bits |= s.canRun(i) ? 1 << i : 0;
                }
                return bits;
            case "nextStep": return s.next;
            case "fetchable": return s.fetchable();
            case "commitable": return s.commitable();
            case "walked":
                unless(isEntry(a[0]) && among(a[1], 0, 7), 1);
                return s.without(a[0]).mapped(a[1]);
            case "saved":
                unless(isEntry(a[0]) && among(a[1], 0, 7), 1);
                return s.window.get(a[0]).save == null ? -2 : s.window.get(a[0]).save[a[1]];
            case "gives":
                unless(isEntry(a[0]), 1);
                return s.without(a[0]).freeCount() - s.freeCount();
            case "agrees": return agrees();
            default: throw new IllegalArgumentException(call);
        }
    }

    private long agrees() {
        Model.PlainRun p = Model.plain(text, 0);
        if (state.resumed || state.committed > p.done) {
            return 0;
        }
        for (int r = 0; r < 8; r++) {
            if (!state.letGo(r) && state.value(r) != p.registers.get(state.committed)[r]) {
                return 0;
            }
        }
        return 1;
    }

    private long cell(int c, int what) throws Refused {
        unless(among(c, 0, state.cells - 1) && among(what, 0, 2), 1);
        if (what == 0) {
            return state.ready[c] ? state.value[c] : -2;
        }
        if (what == 1) {
            return state.holders(c);
        }
        int n = 0;
        for (Model.Entry e : state.window) {
            n += !e.done && e.reads(c) ? 1 : 0;
        }
        return n;
    }

    private long entry(int i, int what) throws Refused {
        unless(isEntry(i) && among(what, 0, 8), 1);
        Model.Entry e = state.window.get(i);
        switch (what) {
            case 0: return e.step;
            case 1: return e.fresh;
            case 2: return e.first;
            case 3: return e.second;
            case 4: return e.done ? 1 : 0;
            case 5: return e.trapped ? 1 : 0;
            case 6: return e.merged ? 1 : 0;
            case 7: return e.save != null ? 1 : 0;
            default: return state.sure(i) ? 1 : 0;
        }
    }
}
