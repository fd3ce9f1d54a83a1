import java.util.ArrayDeque;
import java.util.ArrayList;
import java.util.Collections;
import java.util.Comparator;
import java.util.Deque;
import java.util.List;
import java.util.PriorityQueue;
import java.util.TreeMap;

/**
 * The document once more, written for plainness and not for speed, to be compared with WarpYard: it
 * keeps no states at all but does a part's events anew from the first whenever it needs a state.
 */
final class Model {
    static final int NONE = -1, BAD = -2, STATE = -3, FULL = -4;

    /** How often a run came to what is rare, so that a test can show that it came there. */
    final TreeMap<String, Integer> seen = new TreeMap<>();

    static final class Ev {
        int number, part, minute, senderMinute, sender, count, x;
        boolean come, done, gone, shadowOnWay;
        int failure;
        List<Integer> prints = new ArrayList<>();
        List<Ev> sent = new ArrayList<>();
    }

    record Post(Ev event, boolean shadow) { }

    record Print(int part, int minute, int value) { }

    record Sending(int to, int minute, int x, int count) { }

    static final class Pt {
        int line, did, takenBack;
        List<Integer> row = new ArrayList<>();
        List<int[]> acts = new ArrayList<>();
        List<Ev> done = new ArrayList<>();
        List<Ev> waiting = new ArrayList<>();
    }

    /** A part's state, and what its last doing gave. */
    static final class World {
        int[] cells = new int[4];
        int drew, sentCount, failure;
        List<Integer> prints = new ArrayList<>();
        List<Sending> sendings = new ArrayList<>();
    }

    static final Comparator<Ev> BY_KEY = Comparator.<Ev>comparingInt(e -> e.minute)
            .thenComparingInt(e -> e.senderMinute).thenComparingInt(e -> e.sender)
            .thenComparingInt(e -> e.count);
    static final Comparator<Ev> BY_KEY_AND_NUMBER = BY_KEY.thenComparingInt(e -> e.number);

    final List<Pt> parts = new ArrayList<>();
    final List<Ev> events = new ArrayList<>();
    final List<Post> way = new ArrayList<>();
    final Deque<Post> turn = new ArrayDeque<>();
    int starts, shadows, met, limit = NONE;

    private void saw(String what) {
        seen.merge(what, 1, Integer::sum);
    }

    private static boolean in(int n, int low, int high) {
        return low <= n && n <= high;
    }

    private boolean noPart(int p) {
        return !in(p, 0, parts.size() - 1);
    }

    int part(int line) {
        if (!in(line, 0, 3)) return BAD;
        if (!events.isEmpty()) return STATE;
        if (parts.size() == 12) return FULL;
        Pt p = new Pt();
        p.line = line;
        parts.add(p);
        return parts.size() - 1;
    }

    int tear(int part, int n) {
        if (noPart(part)) return BAD;
        if (!events.isEmpty()) return STATE;
        List<Integer> row = parts.get(part).row;
        if (row.size() == 8) return FULL;
        row.add(n);
        return row.size();
    }

    int rule(int part, int act, int a, int b, int c) {
        if (noPart(part) || !in(act, 0, 7) || !in(a, 0, 15) || !in(b, 0, 15) || !in(c, -3, 20)) return BAD;
        if (!events.isEmpty()) return STATE;
        List<int[]> acts = parts.get(part).acts;
        if (acts.size() == 8) return FULL;
        acts.add(new int[] {act, a, b, c});
        return acts.size();
    }

    int start(int part, int minute, int x) {
        if (noPart(part) || !in(minute, 0, 100000)) return BAD;
        Ev f = least();
        if (f != null && minute <= f.minute) return STATE;
        if (f == null && events.stream().anyMatch(e -> e.done && minute <= e.minute)) return STATE;
        if (events.size() == 400) return FULL;
        Ev e = make(part, minute, -1, -1, starts++, x);
        turn.add(new Post(e, false));
        work();
        return e.number;
    }

    private Ev make(int part, int minute, int senderMinute, int sender, int count, int x) {
        Ev e = new Ev();
        e.number = events.size();
        e.part = part;
        e.minute = minute;
        e.senderMinute = senderMinute;
        e.sender = sender;
        e.count = count;
        e.x = x;
        for (Ev o : events) if (BY_KEY.compare(o, e) == 0 && !o.gone) saw("one key twice");
        events.add(e);
        return e;
    }

    int step(int line) {
        if (!in(line, 0, 3)) return BAD;
        Ev e = events.stream().filter(o -> o.come && !o.done && !o.gone && parts.get(o.part).line == line)
                .min(BY_KEY_AND_NUMBER).orElse(null);
        if (e == null) return NONE;
        if (limit != NONE && e.minute > least().minute + limit) { saw("limit"); return STATE; }
        if (events.size() > 392) { saw("full"); return FULL; }
        Pt p = parts.get(e.part);
        World w = worldOf(p, p.done);
        perform(p, w, e);
        p.done.add(e);
        p.did++;
        e.done = true;
        e.failure = w.failure;
        if (w.failure != 0) saw("failure " + w.failure);
        e.prints = new ArrayList<>(w.prints);
        for (Sending s : w.sendings) {
            Ev sent = make(s.to, s.minute, e.minute, e.part, s.count, s.x);
            e.sent.add(sent);
            post(p, new Post(sent, false));
        }
        work();
        return e.number;
    }

    private void post(Pt from, Post post) {
        if (parts.get(post.event.part).line == from.line) {
            turn.addLast(post);
        } else {
            way.add(post);
            if (post.shadow) post.event.shadowOnWay = true;
        }
    }

    private World worldOf(Pt p, List<Ev> done) {
        World w = new World();
        for (Ev e : done) perform(p, w, e);
        return w;
    }

    private void perform(Pt p, World w, Ev e) {
        w.failure = 0;
        w.prints.clear();
        w.sendings.clear();
        for (int i = 0; i < p.acts.size(); i++) {
            int[] act = p.acts.get(i);
            int a = act[1] & 3, b = act[2], c = act[3];
            int other = w.cells[b & 3];
            switch (act[0]) {
                case 0 -> w.cells[a] += e.x + b;
                case 1 -> w.cells[a] = other * c + e.minute;
                case 2 -> {
                    if (c < 1) { w.failure = 2; return; }
                    if (e.minute + c > 100000) { w.failure = 6; return; }
                    w.sendings.add(new Sending(b % parts.size(), e.minute + c, w.cells[a], w.sentCount++));
                }
                case 3 -> {
                    if (p.row.isEmpty()) { w.failure = 1; return; }
                    if (w.drew == p.row.size()) { w.failure = 4; return; }
                    w.cells[a] = p.row.get(w.drew++);
                }
                case 4 -> i += (w.cells[a] & 1) == 0 ? b & 3 : 0;
                case 5 -> w.prints.add(w.cells[a]);
                case 6 -> {
                    if (other == 0) { w.failure = 3; return; }
                    w.cells[a] = (int) ((long) w.cells[a] / other);
                }
                default -> {
                    int n = (other & 15) - 8;
                    if (n < 0) { w.failure = 5; return; }
                    w.cells[a] = n;
                }
            }
        }
    }

    private void work() {
        while (!turn.isEmpty()) {
            Post post = turn.removeFirst();
            Ev e = post.event;
            Pt p = parts.get(e.part);
            if (post.shadow && !e.come) {
                saw("shadow waits");
                p.waiting.add(e);
            } else if (post.shadow && !e.done) {
                saw("shadow meets one not done");
                meet(e);
            } else if (post.shadow) {
                saw("shadow meets one done");
                List<Ev> back = takeBack(p, e);
                back.add(e);
                undo(p, e);
                meet(e);
                sendShadows(p, back);
            } else if (p.waiting.remove(e)) {
                saw("event meets a waiting shadow");
                meet(e);
            } else {
                e.come = true;
                List<Ev> back = takeBack(p, e);
                if (!back.isEmpty()) saw("event sends a part back");
                sendShadows(p, back);
            }
        }
    }

    /** Those above the event, from the highest down. */
    private List<Ev> takeBack(Pt p, Ev e) {
        List<Ev> back = new ArrayList<>();
        while (!p.done.isEmpty() && BY_KEY_AND_NUMBER.compare(p.done.get(p.done.size() - 1), e) > 0) {
            Ev last = p.done.get(p.done.size() - 1);
            if (BY_KEY.compare(last, e) == 0) saw("taken back by its number alone");
            undo(p, last);
            back.add(last);
        }
        if (back.size() > 2) saw("three or more taken back");
        return back;
    }

    private void undo(Pt p, Ev e) {
        p.done.remove(e);
        p.takenBack++;
        e.done = false;
        e.failure = 0;
        e.prints = new ArrayList<>();
    }

    private void sendShadows(Pt p, List<Ev> back) {
        List<Ev> sent = new ArrayList<>();
        for (Ev b : back) {
            sent.addAll(b.sent);
            b.sent = new ArrayList<>();
        }
        sent.sort(Comparator.<Ev>comparingInt(e -> e.number).reversed());
        for (Ev e : sent) {
            shadows++;
            post(p, new Post(e, true));
        }
    }

    private void meet(Ev e) {
        e.gone = true;
        met++;
    }

    int run(int line, int n) {
        if (!in(line, 0, 3) || !in(n, 0, 200)) return BAD;
        int done = 0;
        while (done < n && step(line) >= 0) done++;
        return done;
    }

    int deliver(int i) {
        if (!in(i, 0, way.size() - 1)) return BAD;
        Post post = way.remove(i);
        if (post.shadow) post.event.shadowOnWay = false;
        turn.add(post);
        work();
        return post.shadow ? 2 : 1;
    }

    int deliverAll() {
        int n = 0;
        while (!way.isEmpty()) {
            deliver(0);
            n++;
        }
        return n;
    }

    int move(int part, int line) {
        if (noPart(part) || !in(line, 0, 3)) return BAD;
        int before = parts.get(part).line;
        parts.get(part).line = line;
        return before;
    }

    int limit(int n) {
        if (!in(n, -1, 1000)) return BAD;
        int before = limit;
        limit = n;
        return before;
    }

    int keep(int k) {
        return in(k, 1, 9) ? 1 : BAD;
    }

    private Ev least() {
        List<Ev> open = new ArrayList<>();
        for (Ev e : events) if (!e.gone && e.come && !e.done) open.add(e);
        for (Post p : way) open.add(p.event);
        return open.isEmpty() ? null : Collections.min(open, BY_KEY);
    }

    int floor(int what) {
        if (!in(what, 0, 3)) return BAD;
        Ev f = least();
        if (f == null) return -9;
        return new int[] {f.minute, f.senderMinute, f.sender, f.count}[what];
    }

    int cell(int part, int cell) {
        if (noPart(part) || !in(cell, 0, 3)) return 0;
        Pt p = parts.get(part);
        return worldOf(p, p.done).cells[cell];
    }

    private boolean isSettled(Ev e, Ev least) {
        return e.done && (least == null || BY_KEY.compare(e, least) < 0);
    }

    private List<Ev> settledEvents() {
        Ev f = least();
        return events.stream().filter(e -> isSettled(e, f)).sorted(BY_KEY_AND_NUMBER).toList();
    }

    int settled(int part, int cell) {
        if (noPart(part) || !in(cell, 0, 3)) return 0;
        return settledWorld(part).cells[cell];
    }

    private World settledWorld(int part) {
        return worldOf(parts.get(part), settledEvents().stream().filter(e -> e.part == part).toList());
    }

    int told(int part, int what) {
        if (noPart(part) || !in(what, 0, 7)) return BAD;
        Pt p = parts.get(part);
        World now = worldOf(p, p.done);
        int there = (int) events.stream().filter(e -> e.part == part && e.come && !e.done && !e.gone).count();
        return new int[] {p.line, p.did, p.takenBack, p.done.size(), there, now.drew, now.sentCount,
            p.waiting.size()}[what];
    }

    int event(int e, int what) {
        if (!in(e, 0, events.size() - 1) || !in(what, 0, 6)) return BAD;
        Ev o = events.get(e);
        int how = o.gone ? 4 : !o.come ? 3 : !o.done ? 0 : isSettled(o, least()) ? 2 : 1;
        return new int[] {o.part, o.minute, o.senderMinute, o.sender, o.count, how, o.failure}[what];
    }

    int number(int e) {
        return in(e, 0, events.size() - 1) ? events.get(e).x : 0;
    }

    int way(int i, int what) {
        if (!in(what, 0, 1)) return BAD;
        if (!in(i, 0, way.size() - 1)) return NONE;
        return what == 0 ? way.get(i).event.number : way.get(i).shadow ? 1 : 0;
    }

    int count(int what) {
        if (!in(what, 0, 8)) return BAD;
        List<Ev> settled = settledEvents();
        int failed = (int) settled.stream().filter(e -> e.failure != 0).count();
        return new int[] {parts.size(), events.size(), way.size(), shadows, met, prints().size(),
            settled.size(), failed, starts}[what];
    }

    private List<Print> prints() {
        List<Print> all = new ArrayList<>();
        for (Ev e : settledEvents()) for (int v : e.prints) all.add(new Print(e.part, e.minute, v));
        return all;
    }

    int out(int i, int what) {
        if (!in(what, 0, 1)) return BAD;
        List<Print> all = prints();
        if (!in(i, 0, all.size() - 1)) return NONE;
        return what == 0 ? all.get(i).part : all.get(i).minute;
    }

    int printed(int i) {
        List<Print> all = prints();
        return in(i, 0, all.size() - 1) ? all.get(i).value : 0;
    }

    int failed(int what) {
        if (!in(what, 0, 2)) return BAD;
        for (Ev e : settledEvents()) {
            if (e.failure != 0) return new int[] {e.number, e.failure, e.part}[what];
        }
        return NONE;
    }

    int same() {
        Ev f = least();
        PriorityQueue<Ev> queue = new PriorityQueue<>(BY_KEY);
        for (Ev e : events) if (e.sender == -1) queue.add(e);
        List<World> worlds = new ArrayList<>();
        for (int i = 0; i < parts.size(); i++) worlds.add(new World());
        List<Print> prints = new ArrayList<>();
        int did = 0, failed = 0;
        while (!queue.isEmpty() && (f == null || BY_KEY.compare(queue.peek(), f) < 0)) {
            Ev e = queue.poll();
            World w = worlds.get(e.part);
            perform(parts.get(e.part), w, e);
            did++;
            if (w.failure != 0) failed++;
            for (int v : w.prints) prints.add(new Print(e.part, e.minute, v));
            for (Sending s : w.sendings) {
                Ev sent = new Ev();
                sent.part = s.to;
                sent.minute = s.minute;
                sent.senderMinute = e.minute;
                sent.sender = e.part;
                sent.count = s.count;
                sent.x = s.x;
                queue.add(sent);
            }
        }
        boolean same = did == count(6) && failed == count(7) && prints.equals(prints());
        for (int i = 0; i < parts.size(); i++) {
            same &= java.util.Arrays.equals(worlds.get(i).cells, settledWorld(i).cells);
        }
        return same ? 1 : 0;
    }
}
