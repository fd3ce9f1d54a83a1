/**
 * A warp yard: parts of a simulated world run ahead of one another on lines, go back when an
 * earlier event comes, and take back by shadows what they had sent; behind a floor nothing changes
 * any more, and what stands there is what one slow line would have made.
 */
public final class WarpYard {
    public static final int NONE = -1, BAD = -2, STATE = -3, FULL = -4;

    private static final int MOST_PARTS = 12;
    private static final int MOST_EVENTS = 400;
    private static final int MOST_ACTS = 8;
    private static final int MOST_ROW = 8;
    private static final int LINES = 4;
    private static final int CELLS = 4;
    private static final int LAST_MINUTE = 100000;
    private static final int MOST_STEPS = 200;
    private static final int MOST_LIMIT = 1000;
    private static final int MOST_KEEP = 9;

    /** One doing sends at most one event an act: with more events than this they could overflow. */
    private static final int MOST_EVENTS_TO_STEP = MOST_EVENTS - MOST_ACTS;

    /** An event is posted once, and its shadow once. */
    private static final int MOST_POSTS = 2 * MOST_EVENTS;

    private static final int MOST_OUT = MOST_EVENTS * MOST_ACTS;

    private static final int NO_FLOOR = -9;

    /** The sender, and the sender's minute, of an event by start(). */
    private static final int BY_START = -1;

    // How an event is, as event() tells it.
    private static final int THERE = 0;
    private static final int DONE = 1;
    private static final int SETTLED = 2;
    private static final int NOT_COME = 3;
    private static final int GONE = 4;

    // Where an event's shadow is.
    private static final int NO_SHADOW = 0;
    private static final int SHADOW_ON_THE_WAY = 1;
    private static final int SHADOW_WAITS = 2;

    // The acts.
    private static final int ADD = 0;
    private static final int MULTIPLY = 1;
    private static final int SEND = 2;
    private static final int DRAW = 3;
    private static final int PASS_OVER = 4;
    private static final int PRINT = 5;
    private static final int DIVIDE = 6;
    private static final int MEASURE = 7;

    private static final int LOWEST_C = -3;
    private static final int HIGHEST_C = 20;
    private static final int HIGHEST_AB = 15;

    // How an event fails.
    private static final int NO_ROW = 1;
    private static final int NOT_LATER = 2;
    private static final int BY_ZERO = 3;
    private static final int ROW_ENDS = 4;
    private static final int BELOW_ZERO = 5;
    private static final int TOO_LATE = 6;

    private final Part[] parts = new Part[MOST_PARTS];
    private int partCount;

    /** All events, by their numbers. */
    private final Event[] events = new Event[MOST_EVENTS];

    /** All events, by their keys: it has as many as there are numbers. */
    private final Order order = new Order();

    private final Posts onTheWay = new Posts();

    /** What comes at once: empty between two calls. */
    private final Posts atOnce = new Posts();

    private final Doing doing = new Doing();
    private final State spare = new State();
    private final Walk out = new Walk();
    private final Plain plain = new Plain();

    private int starts;
    private int shadowsSent;
    private int pairsMet;
    private int limit = NONE;
    private int keepEach = 1;

    public WarpYard() {
    }

    // ---- building the world

    public int part(int line) {
        if (!isLine(line)) {
            return BAD;
        }
        if (order.size > 0) {
            return STATE;
        }
        if (partCount >= MOST_PARTS) {
            return FULL;
        }
        parts[partCount] = new Part(line);
        partCount++;
        return partCount - 1;
    }

    public int tear(int part, int n) {
        if (!isPart(part)) {
            return BAD;
        }
        if (order.size > 0) {
            return STATE;
        }
        return parts[part].addToRow(n);
    }

    public int rule(int part, int act, int a, int b, int c) {
        if (!isPart(part) || !isWithin(act, ADD, MEASURE)) {
            return BAD;
        }
        if (!isWithin(a, 0, HIGHEST_AB) || !isWithin(b, 0, HIGHEST_AB)
                || !isWithin(c, LOWEST_C, HIGHEST_C)) {
            return BAD;
        }
        if (order.size > 0) {
            return STATE;
        }
        return parts[part].addAct(act, a, b, c);
    }

    public int start(int part, int minute, int x) {
        if (!isPart(part) || !isWithin(minute, 0, LAST_MINUTE)) {
            return BAD;
        }
        if (minute <= lastClosedMinute()) {
            return STATE;
        }
        if (order.size >= MOST_EVENTS) {
            return FULL;
        }
        Event e = addEvent(part, minute, BY_START, BY_START, starts, x);
        starts++;
        atOnce.add(e, false);
        workOff();
        return e.number;
    }

    // ---- running it

    public int step(int line) {
        if (!isLine(line)) {
            return BAD;
        }
        int answer = doNext(line);
        workOff();
        return answer;
    }

    public int run(int line, int n) {
        if (!isLine(line) || !isWithin(n, 0, MOST_STEPS)) {
            return BAD;
        }
        for (int done = 0; done < n; done++) {
            if (doNext(line) < 0) {
                return done;
            }
            workOff();
        }
        return n;
    }

    public int deliver(int i) {
        if (!isWithin(i, 0, onTheWay.size - 1)) {
            return BAD;
        }
        boolean shadow = onTheWay.shadow[i];
        handOver(i);
        workOff();
        return shadow ? 2 : 1;
    }

    public int deliverAll() {
        int came = 0;
        while (came < MOST_POSTS && onTheWay.size > 0) {
            handOver(0);
            workOff();
            came++;
        }
        return came;
    }

    public int move(int part, int line) {
        if (!isPart(part) || !isLine(line)) {
            return BAD;
        }
        int before = parts[part].line;
        parts[part].line = line;
        return before;
    }

    public int limit(int n) {
        if (n != NONE && !isWithin(n, 0, MOST_LIMIT)) {
            return BAD;
        }
        int before = limit;
        limit = n;
        return before;
    }

    public int keep(int k) {
        if (!isWithin(k, 1, MOST_KEEP)) {
            return BAD;
        }
        keepEach = k;
        return 1;
    }

    // ---- looking at it

    public int floor(int what) {
        if (!isWithin(what, 0, 3)) {
            return BAD;
        }
        Event least = leastOpen();
        return least == null ? NO_FLOOR : least.keyItem(what);
    }

    public int cell(int part, int cell) {
        if (!isPart(part) || !isWithin(cell, 0, CELLS - 1)) {
            return 0;
        }
        return parts[part].state.cells[cell];
    }

    public int settled(int part, int cell) {
        if (!isPart(part) || !isWithin(cell, 0, CELLS - 1)) {
            return 0;
        }
        return settledState(part, settledEnd(leastOpen())).cells[cell];
    }

    public int told(int part, int what) {
        if (!isPart(part)) {
            return BAD;
        }
        Part p = parts[part];
        switch (what) {
            case 0:
                return p.line;
            case 1:
                return p.did;
            case 2:
                return p.takenBack;
            case 3:
                return p.done;
            case 4:
                return thereAt(part);
            case 5:
                return p.state.drew;
            case 6:
                return p.state.sent;
            case 7:
                return waitingAt(part);
            default:
                return BAD;
        }
    }

    public int event(int e, int what) {
        if (!isEvent(e)) {
            return BAD;
        }
        Event it = events[e];
        switch (what) {
            case 0:
                return it.part;
            case 1:
            case 2:
            case 3:
            case 4:
                return it.keyItem(what - 1);
            case 5:
                return isSettled(it, leastOpen()) ? SETTLED : it.how;
            case 6:
                return it.failure;
            default:
                return BAD;
        }
    }

    public int number(int e) {
        return isEvent(e) ? events[e].x : 0;
    }

    public int way(int i, int what) {
        if (!isWithin(what, 0, 1)) {
            return BAD;
        }
        if (!isWithin(i, 0, onTheWay.size - 1)) {
            return NONE;
        }
        if (what == 0) {
            return onTheWay.event[i].number;
        }
        return onTheWay.shadow[i] ? 1 : 0;
    }

    public int count(int what) {
        switch (what) {
            case 0:
                return partCount;
            case 1:
                return order.size;
            case 2:
                return onTheWay.size;
            case 3:
                return shadowsSent;
            case 4:
                return pairsMet;
            case 5:
                return outCount(settledEnd(leastOpen()));
            case 6:
                return settledEvents(settledEnd(leastOpen()), false);
            case 7:
                return settledEvents(settledEnd(leastOpen()), true);
            case 8:
                return starts;
            default:
                return BAD;
        }
    }

    public int out(int i, int what) {
        if (!isWithin(what, 0, 1)) {
            return BAD;
        }
        if (!goToOut(i)) {
            return NONE;
        }
        return what == 0 ? out.part : out.minute;
    }

    public int printed(int i) {
        return goToOut(i) ? out.value : 0;
    }

    public int failed(int what) {
        if (!isWithin(what, 0, 2)) {
            return BAD;
        }
        Event e = firstSettledFailed();
        if (e == null) {
            return NONE;
        }
        switch (what) {
            case 0:
                return e.number;
            case 1:
                return e.failure;
            default:
                return e.part;
        }
    }

    public int same() {
        Event least = leastOpen();
        int end = settledEnd(least);
        plain.begin(partCount);
        for (int i = 0; i < order.size; i++) {
            Event e = events[i];
            if (e.sender == BY_START) {
                plain.add(e.part, e.minute, BY_START, BY_START, e.count, e.x);
            }
        }
        plain.goUpTo(least, parts, partCount);
        boolean same = !plain.overflowed
                && plain.doneCount == settledEvents(end, false)
                && plain.failedCount == settledEvents(end, true)
                && isOutOfPlain(end);
        for (int part = 0; part < partCount && same; part++) {
            same = plain.states[part].hasCellsOf(settledState(part, end));
        }
        return same ? 1 : 0;
    }

    // ---- what an argument may be

    private static boolean isWithin(int n, int least, int most) {
        return n >= least && n <= most;
    }

    private static boolean isLine(int line) {
        return isWithin(line, 0, LINES - 1);
    }

    private boolean isPart(int part) {
        return isWithin(part, 0, partCount - 1);
    }

    private boolean isEvent(int e) {
        return isWithin(e, 0, order.size - 1);
    }

    // ---- doing events

    /** The event's number, or why none is done. What it sends at once waits for workOff(). */
    private int doNext(int line) {
        Event e = leastThere(line);
        if (e == null) {
            return NONE;
        }
        if (isBeyondLimit(e)) {
            return STATE;
        }
        if (order.size > MOST_EVENTS_TO_STEP) {
            return FULL;
        }
        doEvent(e);
        return e.number;
    }

    private Event leastThere(int line) {
        for (int i = 0; i < order.size; i++) {
            Event e = order.event[i];
            if (e.how == THERE && parts[e.part].line == line) {
                return e;
            }
        }
        return null;
    }

    private boolean isBeyondLimit(Event e) {
        if (limit == NONE) {
            return false;
        }
        Event least = leastOpen();
        return least != null && e.minute - least.minute > limit;
    }

    private void doEvent(Event e) {
        Part p = parts[e.part];
        e.keepAhead(p.state, p.done % keepEach == 0);
        doing.perform(p, p.state, e, partCount);
        e.how = DONE;
        e.takeResults(doing);
        p.did++;
        p.done++;
        e.firstSent = order.size;
        e.sentCount = doing.sentCount;
        for (int i = 0; i < doing.sentCount; i++) {
            Event sent = addEvent(doing.sentPart[i], doing.sentMinute[i], e.minute, e.part,
                    doing.sentBefore + i, doing.sentX[i]);
            post(sent, false, p.line);
        }
    }

    private Event addEvent(int part, int minute, int senderMinute, int sender, int count, int x) {
        Event e = new Event(order.size);
        e.set(part, minute, senderMinute, sender, count, x);
        if (e.number < MOST_EVENTS) {
            events[e.number] = e;
            order.insert(e);
        }
        return e;
    }

    private void post(Event e, boolean shadow, int line) {
        if (parts[e.part].line == line) {
            atOnce.add(e, shadow);
            return;
        }
        onTheWay.add(e, shadow);
        if (shadow) {
            e.shadow = SHADOW_ON_THE_WAY;
        }
    }

    // ---- what comes

    private void handOver(int place) {
        atOnce.add(onTheWay.event[place], onTheWay.shadow[place]);
        onTheWay.removeAt(place);
    }

    private void workOff() {
        for (int turn = 0; turn < MOST_POSTS && atOnce.size > 0; turn++) {
            Event e = atOnce.event[0];
            boolean shadow = atOnce.shadow[0];
            atOnce.removeAt(0);
            if (shadow) {
                shadowComes(e);
            } else {
                eventComes(e);
            }
        }
    }

    private void eventComes(Event e) {
        if (e.shadow == SHADOW_WAITS) {
            meet(e);
            return;
        }
        e.how = THERE;
        int lowest = goBack(e);
        sendShadows(e.part, lowest);
    }

    private void shadowComes(Event e) {
        if (e.how == NOT_COME) {
            e.shadow = SHADOW_WAITS;
            return;
        }
        // If it isn't done, nothing above it is done there, and nothing is taken back.
        int lowest = goBack(e);
        meet(e);
        sendShadows(e.part, lowest);
    }

    private void meet(Event e) {
        e.how = GONE;
        e.shadow = NO_SHADOW;
        pairsMet++;
    }

    /**
     * Takes back what is done at the event's part from the event on, itself too if it is done.
     * The place in the order of the lowest one taken back, or the order's end.
     */
    private int goBack(Event e) {
        int lowest = firstDone(e.part, order.placeOf(e));
        if (lowest >= order.size) {
            return lowest;
        }
        Part p = parts[e.part];
        stateAhead(e.part, lowest, p.state);
        for (int i = order.size - 1; i >= lowest; i--) {
            if (isDoneAt(i, e.part)) {
                order.event[i].undo();
                p.done--;
                p.takenBack++;
            }
        }
        return lowest;
    }

    /**
     * A part does its events by their keys, so that those sent last are those of the highest
     * event; only those just taken back still name what they sent and aren't done.
     */
    private void sendShadows(int part, int lowest) {
        for (int i = order.size - 1; i >= lowest; i--) {
            Event e = order.event[i];
            if (e.part != part || e.how == DONE) {
                continue;
            }
            for (int k = e.sentCount - 1; k >= 0; k--) {
                shadowsSent++;
                post(events[e.firstSent + k], true, parts[part].line);
            }
            e.sentCount = 0;
        }
    }

    // ---- states and settled events

    private boolean isDoneAt(int place, int part) {
        Event e = order.event[place];
        return e.how == DONE && e.part == part;
    }

    /** The place of a part's first done event from a place on, or the order's end. */
    private int firstDone(int part, int from) {
        for (int i = from; i < order.size; i++) {
            if (isDoneAt(i, part)) {
                return i;
            }
        }
        return order.size;
    }

    /**
     * The part's state ahead of its done event at a place: states are kept ahead of some events
     * only, so that those between are done again, and what they send and print is let fall.
     */
    private void stateAhead(int part, int place, State into) {
        int from = place;
        while (from > 0 && !isKeptAt(from, part)) {
            from--;
        }
        if (isKeptAt(from, part)) {
            into.copy(order.event[from].ahead);
        } else {
            into.clear();
        }
        for (int i = from; i < place; i++) {
            if (isDoneAt(i, part)) {
                doing.perform(parts[part], into, order.event[i], partCount);
            }
        }
    }

    private boolean isKeptAt(int place, int part) {
        return isDoneAt(place, part) && order.event[place].isKept;
    }

    /** The event whose key is the floor, or null. */
    private Event leastOpen() {
        for (int i = 0; i < order.size; i++) {
            if (order.event[i].isOpen()) {
                return order.event[i];
            }
        }
        return null;
    }

    private static boolean isSettled(Event e, Event least) {
        return e.how == DONE && e.isBelow(least);
    }

    /** The place of the first event that is not below the floor: all done ahead of it is settled. */
    private int settledEnd(Event least) {
        int end = 0;
        while (end < order.size && order.event[end].isBelow(least)) {
            end++;
        }
        return end;
    }

    private State settledState(int part, int end) {
        int firstOpen = firstDone(part, end);
        if (firstOpen >= order.size) {
            return parts[part].state;
        }
        stateAhead(part, firstOpen, spare);
        return spare;
    }

    private int settledEvents(int end, boolean failedOnly) {
        int n = 0;
        for (int i = 0; i < end; i++) {
            Event e = order.event[i];
            if (e.how == DONE && (!failedOnly || e.failure != 0)) {
                n++;
            }
        }
        return n;
    }

    private Event firstSettledFailed() {
        int end = settledEnd(leastOpen());
        for (int i = 0; i < end; i++) {
            Event e = order.event[i];
            if (e.how == DONE && e.failure != 0) {
                return e;
            }
        }
        return null;
    }

    /** A start has to be later than this: behind it something may be settled. */
    private int lastClosedMinute() {
        Event least = leastOpen();
        if (least != null) {
            return least.minute;
        }
        for (int i = order.size - 1; i >= 0; i--) {
            if (order.event[i].how == DONE) {
                return order.event[i].minute;
            }
        }
        return -1;
    }

    private int thereAt(int part) {
        int n = 0;
        for (int i = 0; i < order.size; i++) {
            if (events[i].part == part && events[i].how == THERE) {
                n++;
            }
        }
        return n;
    }

    private int waitingAt(int part) {
        int n = 0;
        for (int i = 0; i < order.size; i++) {
            if (events[i].part == part && events[i].shadow == SHADOW_WAITS) {
                n++;
            }
        }
        return n;
    }

    private int outCount(int end) {
        int n = 0;
        for (int i = 0; i < end; i++) {
            if (order.event[i].how == DONE) {
                n += order.event[i].printCount;
            }
        }
        return n;
    }

    /** Whether there is an i-th that is out: the walk stands there then. */
    private boolean goToOut(int i) {
        if (!isWithin(i, 0, MOST_OUT - 1)) {
            return false;
        }
        out.begin(settledEnd(leastOpen()));
        int ahead = 0;
        while (ahead < i && out.goOn(order)) {
            ahead++;
        }
        return out.goOn(order);
    }

    private boolean isOutOfPlain(int end) {
        out.begin(end);
        plain.out.begin(plain.doneCount);
        boolean more = true;
        for (int i = 0; i <= MOST_OUT && more; i++) {
            more = out.goOn(order);
            if (more != plain.out.goOn(plain.order) || more && !out.isAtEqual(plain.out)) {
                return false;
            }
        }
        return true;
    }

    // ---- classes inside

    private static final class State {
        final int[] cells = new int[CELLS];
        int drew;
        int sent;

        void clear() {
            for (int i = 0; i < CELLS; i++) {
                cells[i] = 0;
            }
            drew = 0;
            sent = 0;
        }

        void copy(State other) {
            for (int i = 0; i < CELLS; i++) {
                cells[i] = other.cells[i];
            }
            drew = other.drew;
            sent = other.sent;
        }

        boolean hasCellsOf(State other) {
            for (int i = 0; i < CELLS; i++) {
                if (cells[i] != other.cells[i]) {
                    return false;
                }
            }
            return true;
        }
    }

    private static final class Part {
        int line;
        final State state = new State();

        final int[] row = new int[MOST_ROW];
        int rowCount;

        final int[] act = new int[MOST_ACTS];
        final int[] a = new int[MOST_ACTS];
        final int[] b = new int[MOST_ACTS];
        final int[] c = new int[MOST_ACTS];
        int actCount;

        int did;
        int done;
        int takenBack;

        Part(int line) {
            this.line = line;
        }

        int addToRow(int n) {
            if (rowCount >= MOST_ROW) {
                return FULL;
            }
            row[rowCount] = n;
            rowCount++;
            return rowCount;
        }

        int addAct(int kind, int newA, int newB, int newC) {
            if (actCount >= MOST_ACTS) {
                return FULL;
            }
            act[actCount] = kind;
            a[actCount] = newA;
            b[actCount] = newB;
            c[actCount] = newC;
            actCount++;
            return actCount;
        }
    }

    private static final class Event {
        final int number;
        int part;
        int minute;
        int senderMinute;
        int sender;
        int count;
        int x;

        int how = NOT_COME;
        int shadow = NO_SHADOW;

        int failure;
        final int[] printed = new int[MOST_ACTS];
        int printCount;

        /** What one doing sends has numbers in a row: nothing else is sent meanwhile. */
        int firstSent;
        int sentCount;

        /** The state ahead of it, if it is kept; made when it is first needed, then used again. */
        State ahead;
        boolean isKept;

        Event(int number) {
            this.number = number;
        }

        void set(int part, int minute, int senderMinute, int sender, int count, int x) {
            this.part = part;
            this.minute = minute;
            this.senderMinute = senderMinute;
            this.sender = sender;
            this.count = count;
            this.x = x;
        }

        void keepAhead(State state, boolean kept) {
            isKept = kept;
            if (!kept) {
                return;
            }
            if (ahead == null) {
                ahead = new State();
            }
            ahead.copy(state);
        }

        void takeResults(Doing doing) {
            failure = doing.failure;
            printCount = doing.printCount;
            for (int i = 0; i < printCount; i++) {
                printed[i] = doing.printed[i];
            }
        }

        /** What it sent stays named, till the shadows for it are sent. */
        void undo() {
            how = THERE;
            failure = 0;
            printCount = 0;
            isKept = false;
        }

        /** Whether it holds the floor down. */
        boolean isOpen() {
            return how == THERE || how == NOT_COME || shadow == SHADOW_ON_THE_WAY;
        }

        int keyItem(int what) {
            switch (what) {
                case 0:
                    return minute;
                case 1:
                    return senderMinute;
                case 2:
                    return sender;
                default:
                    return count;
            }
        }

        /** By keys alone; below none there is everything. */
        boolean isBelow(Event other) {
            return other == null || compareKeys(other) < 0;
        }

        int compareKeys(Event other) {
            if (minute != other.minute) {
                return Integer.compare(minute, other.minute);
            }
            if (senderMinute != other.senderMinute) {
                return Integer.compare(senderMinute, other.senderMinute);
            }
            if (sender != other.sender) {
                return Integer.compare(sender, other.sender);
            }
            return Integer.compare(count, other.count);
        }
    }

    /** Events by their keys, and by their numbers where the keys are the same. */
    private static final class Order {
        final Event[] event = new Event[MOST_EVENTS];
        int size;

        /** The event's number is above all that are in it: it goes behind those with its key. */
        void insert(Event e) {
            if (size >= MOST_EVENTS) {
                return;
            }
            int place = size;
            while (place > 0 && event[place - 1].compareKeys(e) > 0) {
                event[place] = event[place - 1];
                place--;
            }
            event[place] = e;
            size++;
        }

        int placeOf(Event e) {
            int place = size - 1;
            while (place > 0 && event[place] != e) {
                place--;
            }
            return Math.max(place, 0);
        }
    }

    /** Events and shadows in the order in which they were sent. */
    private static final class Posts {
        final Event[] event = new Event[MOST_POSTS];
        final boolean[] shadow = new boolean[MOST_POSTS];
        int size;

        void add(Event e, boolean isShadow) {
            if (size >= MOST_POSTS) {
                return;
            }
            event[size] = e;
            shadow[size] = isShadow;
            size++;
        }

        void removeAt(int place) {
            for (int i = place; i < size - 1; i++) {
                event[i] = event[i + 1];
                shadow[i] = shadow[i + 1];
            }
            size--;
        }
    }

    /** One doing of an event: it changes a state alone, and holds what is sent and printed by it. */
    private static final class Doing {
        final int[] sentPart = new int[MOST_ACTS];
        final int[] sentMinute = new int[MOST_ACTS];
        final int[] sentX = new int[MOST_ACTS];
        int sentCount;

        /** How many events the part had sent ahead of this doing. */
        int sentBefore;

        final int[] printed = new int[MOST_ACTS];
        int printCount;

        int failure;

        void perform(Part part, State state, Event e, int partCount) {
            begin(state);
            int[] cells = state.cells;
            for (int i = 0; i < part.actCount && failure == 0; i++) {
                int a = part.a[i] % CELLS;
                int b = part.b[i] % CELLS;
                switch (part.act[i]) {
                    case ADD:
                        cells[a] += e.x + part.b[i];
                        break;
                    case MULTIPLY:
                        cells[a] = cells[b] * part.c[i] + e.minute;
                        break;
                    case SEND:
                        int to = partCount > 0 ? part.b[i] % partCount : 0;
                        send(state, a, to, e.minute, part.c[i]);
                        break;
                    case DRAW:
                        draw(part, state, a);
                        break;
                    case PASS_OVER:
                        i += cells[a] % 2 == 0 ? part.b[i] % 4 : 0;
                        break;
                    case PRINT:
                        printed[printCount] = cells[a];
                        printCount++;
                        break;
                    case DIVIDE:
                        divide(cells, a, b);
                        break;
                    default:
                        measure(cells, a, b);
                        break;
                }
            }
        }

        private void begin(State state) {
            sentCount = 0;
            sentBefore = state.sent;
            printCount = 0;
            failure = 0;
        }

        private void send(State state, int a, int to, int minute, int later) {
            if (later < 1) {
                failure = NOT_LATER;
            } else if (minute + later > LAST_MINUTE) {
                failure = TOO_LATE;
            } else {
                sentPart[sentCount] = to;
                sentMinute[sentCount] = minute + later;
                sentX[sentCount] = state.cells[a];
                sentCount++;
                state.sent++;
            }
        }

        private void draw(Part part, State state, int a) {
            if (part.rowCount == 0) {
                failure = NO_ROW;
            } else if (state.drew >= part.rowCount) {
                failure = ROW_ENDS;
            } else {
                state.cells[a] = part.row[state.drew];
                state.drew++;
            }
        }

        private void divide(int[] cells, int a, int b) {
            if (cells[b] == 0) {
                failure = BY_ZERO;
            } else {
                cells[a] = cells[a] / cells[b];
            }
        }

        private void measure(int[] cells, int a, int b) {
            int n = Math.floorMod(cells[b], 16) - 8;
            if (n < 0) {
                failure = BELOW_ZERO;
            } else {
                cells[a] = n;
            }
        }
    }

    /**
     * Goes through what events printed, by keys, and of one event in its order: a list of it would
     * take more room than all else.
     */
    private static final class Walk {
        int part;
        int minute;
        int value;

        private int end;
        private int place;
        private int next;

        /** Through the done events ahead of a place. */
        void begin(int newEnd) {
            end = newEnd;
            place = 0;
            next = 0;
        }

        /** Whether there is one more: it stands there then. */
        boolean goOn(Order order) {
            while (place < end && place < order.size) {
                Event e = order.event[place];
                if (e.how == DONE && next < e.printCount) {
                    part = e.part;
                    minute = e.minute;
                    value = e.printed[next];
                    next++;
                    return true;
                }
                place++;
                next = 0;
            }
            return false;
        }

        boolean isAtEqual(Walk other) {
            return part == other.part && minute == other.minute && value == other.value;
        }
    }

    /** One slow line, which does one event after the other and never goes back. */
    private static final class Plain {
        final State[] states = new State[MOST_PARTS];
        final Order order = new Order();
        final Walk out = new Walk();
        final Doing doing = new Doing();

        /** Those done are the first ones of the order. */
        int doneCount;
        int failedCount;
        boolean overflowed;

        /** Events by number, made when they are first needed and used again in each run. */
        private final Event[] pool = new Event[MOST_EVENTS];

        void begin(int partCount) {
            for (int i = 0; i < partCount; i++) {
                if (states[i] == null) {
                    states[i] = new State();
                }
                states[i].clear();
            }
            order.size = 0;
            doneCount = 0;
            failedCount = 0;
            overflowed = false;
        }

        void add(int part, int minute, int senderMinute, int sender, int count, int x) {
            int number = order.size;
            if (number >= MOST_EVENTS) {
                overflowed = true;
                return;
            }
            if (pool[number] == null) {
                pool[number] = new Event(number);
            }
            pool[number].set(part, minute, senderMinute, sender, count, x);
            order.insert(pool[number]);
        }

        /** What an event sends has a higher key than its own, so the order's places can be walked. */
        void goUpTo(Event least, Part[] parts, int partCount) {
            for (int i = 0; i < MOST_EVENTS && i < order.size && order.event[i].isBelow(least); i++) {
                Event e = order.event[i];
                doing.perform(parts[e.part], states[e.part], e, partCount);
                e.how = DONE;
                e.takeResults(doing);
                doneCount++;
                if (e.failure != 0) {
                    failedCount++;
                }
                for (int k = 0; k < doing.sentCount; k++) {
                    add(doing.sentPart[k], doing.sentMinute[k], e.minute, e.part,
                            doing.sentBefore + k, doing.sentX[k]);
                }
            }
        }
    }
}
