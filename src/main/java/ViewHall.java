import java.util.Arrays;

/** A hall of processes that keep groups; ../shared/DOC.md tells what each call does. */
public final class ViewHall {
    private static final int MOST_PROCESSES = 6;
    private static final int MOST_PACKETS = 600;
    private static final int MOST_BODY = 1 + MOST_PROCESSES * MOST_PROCESSES;
    private static final int MOST_TIMES = 60;
    private static final int MOST_LOSS = 16;
    private static final int SEND_WINDOW = 8;
    private static final int ORDER_WINDOW = 12;
    private static final int REPEAT_TICKS = 4;
    private static final int HELLO_TICKS = 2;
    private static final int STAY_TICKS = 3;
    /** Far above the messages that a process can hold at once. */
    private static final int MOST_STEPS = 100000;

    private static final int HELLO = 0;
    private static final int DATA = 1;
    private static final int PROPOSE = 2;
    private static final int REPLY = 3;
    private static final int CUT = 4;
    private static final int FILL = 5;
    private static final int READY = 6;
    private static final int INSTALL = 7;
    private static final int BYE = 8;

    private static final int FIFO = 0;
    private static final int CAUSAL = 1;
    private static final int AGREED = 2;
    private static final int SAFE = 3;
    private static final int ORDER = 4;

    private static final int MODE_OPEN = 0;
    private static final int MODE_PROMISED = 1;
    private static final int MODE_CUT = 2;
    private static final int MODE_WHOLE = 3;

    private static final int EVENT_VIEW = 1;
    private static final int EVENT_DELIVERY = 2;
    private static final int EVENT_OUT = 3;

    /** How fronts are passed: as an open process works, as a view ends, and what is left then. */
    private static final int WORKING = 0;
    private static final int ENDING = 1;
    private static final int LEFTOVER = 2;

    private final Wire wire;
    private final Node[] nodes;

    public ViewHall() {
        wire = new Wire();
        nodes = new Node[MOST_PROCESSES];
        for (int p = 0; p < MOST_PROCESSES; p++) {
            nodes[p] = new Node(p, wire);
        }
        wire.reset(3, 8);
    }

    public void begin(int processes, int patience) throws IllegalArgumentException {
        if (processes < 2 || processes > MOST_PROCESSES || patience < 6 || patience > 30) {
            throw new IllegalArgumentException("processes must be 2 .. 6, patience 6 .. 30");
        }
        wire.reset(processes, patience);
        for (int p = 0; p < MOST_PROCESSES; p++) {
            nodes[p].reset();
        }
    }

    public void join(int p) throws IllegalArgumentException, IllegalStateException {
        checkProcess(p);
        if (nodes[p].in) {
            throw new IllegalStateException("the process is in");
        }
        nodes[p].enter();
    }

    public void leave(int p) throws IllegalArgumentException, IllegalStateException {
        checkProcess(p);
        checkIn(p);
        nodes[p].sayBye();
        nodes[p].goOut();
    }

    public void crash(int p) throws IllegalArgumentException, IllegalStateException {
        checkProcess(p);
        checkIn(p);
        nodes[p].goOut();
    }

    public int send(int p, int sort, int value) throws IllegalArgumentException, IllegalStateException {
        checkProcess(p);
        if (sort < FIFO || sort > SAFE) {
            throw new IllegalArgumentException("no such sort");
        }
        checkIn(p);
        return nodes[p].offer(sort, value);
    }

    public void part(int sides) throws IllegalArgumentException {
        int left = sides;
        for (int p = 0; p < wire.processes; p++) {
            left /= 3;
        }
        if (sides < 0 || left != 0) {
            throw new IllegalArgumentException("sides must be a digit 0 .. 2 a process");
        }
        left = sides;
        for (int p = 0; p < wire.processes; p++) {
            nodes[p].side = left % 3;
            left /= 3;
        }
    }

    public int tick() {
        advance();
        return wire.count;
    }

    public void deliver(int k) throws IndexOutOfBoundsException {
        checkPacket(k);
        carry(wire.at(k));
    }

    public void lose(int k) throws IndexOutOfBoundsException {
        checkPacket(k);
        drop(wire.at(k));
    }

    public int go(int times, int seed, int loss) throws IllegalArgumentException {
        if (times < 1 || times > MOST_TIMES || loss < 0 || loss > MOST_LOSS) {
            throw new IllegalArgumentException("times must be 1 .. 60, loss 0 .. 16");
        }
        int drawn = seed;
        for (int i = 0; i < times; i++) {
            advance();
            Packet k = wire.first;
            for (int left = wire.count; left > 0 && k != null; left--) {
                // What is carried goes back to the pool, so its successor is read ahead.
                Packet next = k.after;
                drawn = drawn * 1103515245 + 12345;
                int x = drawn >>> 16;
                if (x % 16 < loss) {
                    drop(k);
                } else if (wire.time - k.time >= STAY_TICKS || x / 16 % 4 == 0) {
                    carry(k);
                }
                k = next;
            }
        }
        return wire.count;
    }

    public int look(int what) throws IllegalArgumentException {
        switch (what) {
            case 0: return wire.processes;
            case 1: return wire.patience;
            case 2: return wire.time;
            case 3: return wire.count;
            case 4: return wire.sent;
            default: throw new IllegalArgumentException("what must be 0 .. 4");
        }
    }

    public int packet(int k, int what) throws IndexOutOfBoundsException, IllegalArgumentException {
        checkPacket(k);
        if (what < 0 || what >= Packet.HEAD + MOST_BODY) {
            throw new IllegalArgumentException("what must be 0 .. 45");
        }
        Packet found = wire.at(k);
        return found == null ? 0 : found.item(what);
    }

    public int about(int p, int what) throws IllegalArgumentException {
        checkProcess(p);
        if (what < 0 || what > 23) {
            throw new IllegalArgumentException("what must be 0 .. 23");
        }
        if (what <= 4) {
            return nodes[p].lasting(what);
        }
        if (!nodes[p].in) {
            return 0;
        }
        return what <= 15 ? nodes[p].standing(what) : nodes[p].holding(what);
    }

    public int stream(int p, int what, int u, int q) throws IllegalArgumentException {
        checkProcess(p);
        checkProcess(u);
        checkProcess(q);
        if (what < 0 || what > 3) {
            throw new IllegalArgumentException("what must be 0 .. 3");
        }
        if (!nodes[p].in) {
            return 0;
        }
        Streams kept = nodes[p].streams;
        switch (what) {
            case 0: return kept.got[u];
            case 1: return kept.done[u];
            case 2: return kept.allDone[q][u];
            default: return kept.allGot[q][u];
        }
    }

    public int event(int p, int k, int what) throws IllegalArgumentException, IndexOutOfBoundsException {
        checkProcess(p);
        if (what < 0 || what > 4) {
            throw new IllegalArgumentException("what must be 0 .. 4");
        }
        if (!nodes[p].events.keeps(k)) {
            throw new IndexOutOfBoundsException("the event is not kept");
        }
        return nodes[p].events.item(k, what);
    }

    private void checkProcess(int p) {
        if (p < 0 || p >= wire.processes) {
            throw new IllegalArgumentException("no such process");
        }
    }

    private void checkIn(int p) {
        if (!nodes[p].in) {
            throw new IllegalStateException("the process is out");
        }
    }

    private void checkPacket(int k) {
        if (k < 0 || k >= wire.count) {
            throw new IndexOutOfBoundsException("no such packet");
        }
    }

    private void advance() {
        wire.time++;
        for (int p = 0; p < wire.processes; p++) {
            if (nodes[p].in) {
                nodes[p].startTurn();
                nodes[p].settle();
                nodes[p].endTurn();
            }
        }
    }

    private void carry(Packet k) {
        if (k == null) {
            return;
        }
        wire.unlink(k);
        Node receiver = nodes[k.to];
        if (receiver.in && receiver.side == nodes[k.from].side) {
            receiver.receive(k);
            receiver.settle();
        }
        // Only now: a packet sent meanwhile must not be written over the one being read.
        wire.recycle(k);
    }

    private void drop(Packet k) {
        if (k == null) {
            return;
        }
        wire.unlink(k);
        wire.recycle(k);
    }

    /** An ID as one int, so that IDs compare as ints do; an ORDER's value names its message likewise. */
    private static int idOf(int number, int process) {
        return number * 8 + process;
    }

    private static int numberOf(int id) {
        return id >> 3;
    }

    private static int processOf(int id) {
        return id & 7;
    }

    private static boolean isIn(int process, int set) {
        return (set >> process & 1) != 0;
    }

    /** A packet: its head, its body, and its neighbours in the row or in the pool. */
    private static final class Packet {
        static final int HEAD = 9;

        int kind;
        int from;
        int to;
        int time;
        int serial;
        int view;
        int promise;
        int length;
        final int[] body = new int[MOST_BODY];
        Packet before;
        Packet after;

        void add(int number) {
            if (length < MOST_BODY) {
                body[length] = number;
                length++;
            }
        }

        void addAll(int[] numbers, int count) {
            for (int i = 0; i < count && i < numbers.length; i++) {
                add(numbers[i]);
            }
        }

        int item(int what) {
            switch (what) {
                case 0: return kind;
                case 1: return from;
                case 2: return to;
                case 3: return time;
                case 4: return serial;
                case 5: return numberOf(view);
                case 6: return processOf(view);
                case 7: return numberOf(promise);
                case 8: return processOf(promise);
                default: return bodyItem(what - HEAD);
            }
        }

        private int bodyItem(int i) {
            // A packet out of the pool has an elder one's numbers behind its end.
            return i >= 0 && i < length ? body[i] : 0;
        }
    }

    /** What all processes share: the hall's measures, the time, and the row of packets. */
    private static final class Wire {
        int processes;
        int patience;
        int time;
        int count;
        int sent;
        Packet first;
        Packet last;
        /** Packets that were carried or lost, to be used again. */
        Packet pool;
        /** Takes what is sent while the row is full; it is in no row. */
        final Packet overflow = new Packet();

        void reset(int newProcesses, int newPatience) {
            processes = newProcesses;
            patience = newPatience;
            time = 0;
            sent = 0;
            if (last != null) {
                last.after = pool;
                pool = first;
            }
            first = null;
            last = null;
            count = 0;
        }

        Packet at(int k) {
            Packet found = first;
            for (int i = 0; i < k && found != null; i++) {
                found = found.after;
            }
            return found;
        }

        /** A new packet with an empty body at the row's end, or the one that is lost at once. */
        Packet compose(Node sender, int kind, int to) {
            sender.serial++;
            sent++;
            Packet k = overflow;
            if (count < MOST_PACKETS) {
                k = pool;
                if (k == null) {
                    k = new Packet();
                } else {
                    pool = k.after;
                }
                append(k);
            }
            k.kind = kind;
            k.from = sender.self;
            k.to = to;
            k.time = time;
            k.serial = sender.serial;
            k.view = sender.view;
            k.promise = sender.promise;
            k.length = 0;
            return k;
        }

        private void append(Packet k) {
            k.before = last;
            k.after = null;
            if (last == null) {
                first = k;
            } else {
                last.after = k;
            }
            last = k;
            count++;
        }

        void unlink(Packet k) {
            if (k.before == null) {
                first = k.after;
            } else {
                k.before.after = k.after;
            }
            if (k.after == null) {
                last = k.before;
            } else {
                k.after.before = k.before;
            }
            count--;
        }

        void recycle(Packet k) {
            k.before = null;
            k.after = pool;
            pool = k;
        }
    }

    /** What AGREED and SAFE messages change. */
    private static final class State {
        static final int CELLS = 4;

        int applied;
        int owner = -1;
        final int[] cells = new int[CELLS];

        void clear() {
            applied = 0;
            owner = -1;
            Arrays.fill(cells, 0);
        }

        void copy(State other) {
            applied = other.applied;
            owner = other.owner;
            System.arraycopy(other.cells, 0, cells, 0, CELLS);
        }

        void apply(int from, int value) {
            applied++;
            int cell = value >> 2 & 3;
            int number = value >> 4;
            switch (value & 3) {
                case 0:
                    cells[cell] = number;
                    break;
                case 1:
                    cells[cell] += number;
                    break;
                case 2:
                    if (owner == -1) {
                        owner = from;
                    }
                    break;
                default:
                    if (owner == from) {
                        owner = -1;
                    }
                    break;
            }
        }

        void write(Packet k) {
            k.add(applied);
            k.add(owner);
            for (int c = 0; c < CELLS; c++) {
                k.add(cells[c]);
            }
        }

        void read(Packet k, int start) {
            applied = k.body[start];
            owner = k.body[start + 1];
            System.arraycopy(k.body, start + 2, cells, 0, CELLS);
        }
    }

    /** The latest events of a process. */
    private static final class Events {
        static final int KEPT = 64;
        static final int WIDTH = 5;

        int count;
        final int[] rows = new int[KEPT * WIDTH];

        void add(int sort, int a, int b, int c, int d) {
            int at = count % KEPT * WIDTH;
            rows[at] = sort;
            rows[at + 1] = a;
            rows[at + 2] = b;
            rows[at + 3] = c;
            rows[at + 4] = d;
            count++;
        }

        boolean keeps(int k) {
            return k >= 0 && k < count && k >= count - KEPT;
        }

        int item(int k, int what) {
            return rows[k % KEPT * WIDTH + what];
        }
    }

    /** What a process heard of the others since it joined. */
    private static final class Contacts {
        static final int NEVER = -1;

        final int[] heard = new int[MOST_PROCESSES];
        /** The greatest SERIAL that came; 0 is none, for the first packet's is 1. */
        final int[] serials = new int[MOST_PROCESSES];
        final int[] views = new int[MOST_PROCESSES];
        final int[] promises = new int[MOST_PROCESSES];

        void clear() {
            Arrays.fill(heard, NEVER);
            Arrays.fill(serials, 0);
        }

        void hear(Packet k, int time) {
            int s = k.from;
            heard[s] = k.kind == BYE ? NEVER : time;
            if (k.serial > serials[s]) {
                serials[s] = k.serial;
                views[s] = k.view;
                promises[s] = k.promise;
            }
        }

        boolean knows(int q) {
            return serials[q] > 0;
        }

        int reached(int self, Wire wire) {
            int set = 1 << self;
            for (int q = 0; q < wire.processes; q++) {
                if (heard[q] != NEVER && wire.time - heard[q] <= wire.patience) {
                    set |= 1 << q;
                }
            }
            return set;
        }

        boolean anyPromiseAbove(int id, int set, int self) {
            for (int q = 0; q < MOST_PROCESSES; q++) {
                if (q != self && isIn(q, set) && knows(q) && promises[q] > id) {
                    return true;
                }
            }
            return false;
        }

        boolean allPromised(int id, int set, int self) {
            for (int q = 0; q < MOST_PROCESSES; q++) {
                if (q != self && isIn(q, set) && !(knows(q) && promises[q] == id)) {
                    return false;
                }
            }
            return true;
        }

        boolean knowsInView(int q, int view) {
            return knows(q) && views[q] == view;
        }
    }

    /** The entries that ORDER messages brought: each the ORDER's value, and its place. */
    private static final class Orders {
        /** A power of two above the 12 messages a stream that one member can lack. */
        static final int ROOM = 128;

        int first;
        int count;
        final int[] values = new int[ROOM];
        final int[] places = new int[ROOM];

        void clear() {
            first = 0;
            count = 0;
        }

        void add(int value, int place) {
            if (count < ROOM) {
                int at = (first + count) % ROOM;
                values[at] = value;
                places[at] = place;
                count++;
            }
        }

        void dropFirst() {
            if (count > 0) {
                first = (first + 1) % ROOM;
                count--;
            }
        }

        boolean firstIs(int value) {
            return count > 0 && values[first] == value;
        }

        boolean has(int value) {
            for (int i = 0; i < count; i++) {
                if (values[(first + i) % ROOM] == value) {
                    return true;
                }
            }
            return false;
        }
    }

    /** The streams of one view as one of its members has them. */
    private static final class Streams {
        /** A power of two above the 12 latest messages; elder ones all members have passed. */
        static final int RING = 16;
        static final int SLOTS = MOST_PROCESSES * RING;

        final int self;
        int members;
        int head;
        /** DONE and GOT of each member; the rows of the process itself are its own. */
        final int[][] allDone = new int[MOST_PROCESSES][MOST_PROCESSES];
        final int[][] allGot = new int[MOST_PROCESSES][MOST_PROCESSES];
        final int[] done;
        final int[] got;
        final int[] numbers = new int[SLOTS];
        final int[] sorts = new int[SLOTS];
        final int[] values = new int[SLOTS];
        final int[] pasts = new int[SLOTS * MOST_PROCESSES];
        final Orders orders = new Orders();
        final int[] savedDone = new int[MOST_PROCESSES];
        int savedFirst;
        int savedCount;

        Streams(int process) {
            self = process;
            done = allDone[process];
            got = allGot[process];
        }

        void startView(int newMembers, int newHead) {
            members = newMembers;
            head = newHead;
            for (int q = 0; q < MOST_PROCESSES; q++) {
                Arrays.fill(allDone[q], 0);
                Arrays.fill(allGot[q], 0);
            }
            Arrays.fill(numbers, 0);
            orders.clear();
        }

        static int slot(int u, int number) {
            return u * RING + (number & RING - 1);
        }

        int stable() {
            int least = done[self];
            for (int q = 0; q < MOST_PROCESSES; q++) {
                if (isIn(q, members) && allDone[q][self] < least) {
                    least = allDone[q][self];
                }
            }
            return least;
        }

        int unstable() {
            return got[self] - stable();
        }

        /** A new message of the process's own stream: its number. */
        int addOwn(int sort, int value) {
            int number = got[self] + 1;
            int at = slot(self, number);
            numbers[at] = number;
            sorts[at] = sort;
            values[at] = value;
            System.arraycopy(done, 0, pasts, at * MOST_PROCESSES, MOST_PROCESSES);
            closeGap(self);
            return number;
        }

        /** The message in a packet's body from start on; one that it has, or had, changes nothing. */
        void take(int u, Packet k, int start, int processes) {
            int number = k.body[start];
            if (number <= got[u]) {
                return;
            }
            int at = slot(u, number);
            numbers[at] = number;
            sorts[at] = k.body[start + 1];
            values[at] = k.body[start + 2];
            for (int v = 0; v < MOST_PROCESSES; v++) {
                // Zeros behind the hall's own: a larger hall may have used the slot before.
                pasts[at * MOST_PROCESSES + v] = v < processes ? k.body[start + 3 + v] : 0;
            }
            closeGap(u);
        }

        void write(int u, int number, Packet k, int processes) {
            int at = slot(u, number);
            k.add(number);
            k.add(sorts[at]);
            k.add(values[at]);
            for (int v = 0; v < processes; v++) {
                k.add(pasts[at * MOST_PROCESSES + v]);
            }
        }

        private void closeGap(int u) {
            for (int i = 0; i < RING; i++) {
                int number = got[u] + 1;
                int at = slot(u, number);
                if (numbers[at] != number) {
                    return;
                }
                got[u] = number;
                if (sorts[at] == ORDER) {
                    orders.add(values[at], number);
                }
            }
        }

        void dropBehindGaps() {
            for (int at = 0; at < SLOTS; at++) {
                if (numbers[at] > got[at / RING]) {
                    numbers[at] = 0;
                }
            }
        }

        void learn(int q, Packet k, int processes) {
            for (int u = 0; u < processes; u++) {
                allDone[q][u] = Math.max(allDone[q][u], k.body[u]);
                allGot[q][u] = Math.max(allGot[q][u], k.body[processes + u]);
            }
        }

        /** The least stream whose front can be passed, or -1. */
        int passable(int way) {
            for (int u = 0; u < MOST_PROCESSES; u++) {
                if (done[u] < got[u] && canPass(u, way)) {
                    return u;
                }
            }
            return -1;
        }

        private boolean canPass(int u, int way) {
            int number = done[u] + 1;
            int at = slot(u, number);
            int sort = sorts[at];
            if (sort == ORDER || sort == FIFO) {
                return true;
            }
            if (!isClear(at)) {
                return false;
            }
            if (sort == CAUSAL || way == LEFTOVER) {
                return true;
            }
            if (!orders.firstIs(idOf(number, u))) {
                return false;
            }
            return sort == AGREED || way == ENDING || isSafe(u, number);
        }

        private boolean isClear(int at) {
            for (int v = 0; v < MOST_PROCESSES; v++) {
                if (pasts[at * MOST_PROCESSES + v] > done[v]) {
                    return false;
                }
            }
            return true;
        }

        /** For the front of u, which the first entry names. */
        private boolean isSafe(int u, int number) {
            int place = orders.places[orders.first];
            for (int q = 0; q < MOST_PROCESSES; q++) {
                int[] has = allGot[q];
                boolean member = (members >> q & 1) != 0;
                if (member && (has[u] < number || has[head] < place)) {
                    return false;
                }
                for (int v = 0; v < MOST_PROCESSES && member; v++) {
                    if (has[v] < done[v]) {
                        return false;
                    }
                }
            }
            return true;
        }

        /** The least stream whose front waits for an ORDER of the head, or -1. */
        int unordered() {
            for (int u = 0; u < MOST_PROCESSES; u++) {
                int number = done[u] + 1;
                int at = slot(u, number);
                boolean waits = done[u] < got[u] && (sorts[at] == AGREED || sorts[at] == SAFE);
                if (waits && isClear(at) && !orders.has(idOf(number, u))) {
                    return u;
                }
            }
            return -1;
        }

        boolean hasAll(int[] goal) {
            for (int u = 0; u < MOST_PROCESSES; u++) {
                if (got[u] != goal[u]) {
                    return false;
                }
            }
            return true;
        }

        /** What an end that is only thought through would change. */
        void save() {
            System.arraycopy(done, 0, savedDone, 0, MOST_PROCESSES);
            savedFirst = orders.first;
            savedCount = orders.count;
        }

        void restore() {
            System.arraycopy(savedDone, 0, done, 0, MOST_PROCESSES);
            orders.first = savedFirst;
            orders.count = savedCount;
        }
    }

    /** A process's attempt to make a view; PHASE 0 is none. */
    private static final class Attempt {
        int phase;
        int set;
        int replied;
        int ready;
        final int[] views = new int[MOST_PROCESSES];
        final int[][] gots = new int[MOST_PROCESSES][MOST_PROCESSES];
        final State[] ends = new State[MOST_PROCESSES];

        Attempt() {
            for (int q = 0; q < MOST_PROCESSES; q++) {
                ends[q] = new State();
            }
        }

        void giveUp() {
            phase = 0;
            set = 0;
            replied = 0;
            ready = 0;
        }

        void start(int newSet) {
            phase = 1;
            set = newSet;
            replied = 0;
            ready = 0;
        }

        void addReply(int q, int view, int[] got, int processes) {
            replied |= 1 << q;
            views[q] = view;
            System.arraycopy(got, 0, gots[q], 0, processes);
        }

        boolean allReplied() {
            return phase == 1 && replied == set;
        }

        boolean allReady() {
            return phase == 2 && ready == set;
        }

        boolean wantsReply(int q) {
            return phase == 1 && isIn(q, set) && !isIn(q, replied);
        }

        boolean wantsReady(int q) {
            return phase == 2 && isIn(q, set) && !isIn(q, ready);
        }

        /** Those of the set that replied with the same view as q. */
        int teamOf(int q) {
            int team = 0;
            for (int t = 0; t < MOST_PROCESSES; t++) {
                if (isIn(t, set) && views[t] == views[q]) {
                    team |= 1 << t;
                }
            }
            return team;
        }

        void writeCut(int q, Packet k, int processes) {
            int team = teamOf(q);
            k.add(team);
            for (int t = 0; t < processes; t++) {
                for (int u = 0; u < processes; u++) {
                    k.add(isIn(t, team) ? gots[t][u] : 0);
                }
            }
        }

        /** The process whose END has the greatest APPLIED, the least of several. */
        int foremost() {
            int best = -1;
            for (int q = 0; q < MOST_PROCESSES; q++) {
                if (isIn(q, set) && (best < 0 || ends[q].applied > ends[best].applied)) {
                    best = q;
                }
            }
            return best;
        }
    }

    /** The cut that a process took: who was in its view, and what each of them has. */
    private static final class Cut {
        int team;
        final int[][] have = new int[MOST_PROCESSES][MOST_PROCESSES];
        final int[] goal = new int[MOST_PROCESSES];

        void readOwn(Attempt attempt, int self, int processes) {
            team = attempt.teamOf(self);
            for (int t = 0; t < processes; t++) {
                System.arraycopy(attempt.gots[t], 0, have[t], 0, processes);
            }
            aim(processes);
        }

        void read(Packet k, int processes) {
            team = k.body[0];
            for (int t = 0; t < processes; t++) {
                System.arraycopy(k.body, 1 + t * processes, have[t], 0, processes);
            }
            aim(processes);
        }

        private void aim(int processes) {
            Arrays.fill(goal, 0);
            for (int t = 0; t < processes; t++) {
                for (int u = 0; u < processes && isIn(t, team); u++) {
                    goal[u] = Math.max(goal[u], have[t][u]);
                }
            }
        }

        /** How many of stream u all in the team have. */
        int common(int u) {
            int least = goal[u];
            for (int t = 0; t < MOST_PROCESSES; t++) {
                if (isIn(t, team) && have[t][u] < least) {
                    least = have[t][u];
                }
            }
            return least;
        }

        /** The least in the team that has message k of stream u, or -1. */
        int giver(int u, int k) {
            for (int w = 0; w < MOST_PROCESSES; w++) {
                if (isIn(w, team) && have[w][u] >= k) {
                    return w;
                }
            }
            return -1;
        }
    }

    /** A process. */
    private static final class Node {
        final int self;
        final Wire wire;
        boolean in;
        int side;
        int counter;
        int serial;
        int view;
        int promise;
        int mode;
        final Contacts contacts = new Contacts();
        final Streams streams;
        final Attempt attempt = new Attempt();
        final Cut cut = new Cut();
        final Events events = new Events();
        final State state = new State();
        final State end = new State();
        final State told = new State();
        /** Whether its own attempt made its view. */
        boolean maker;
        /** The members of the view that it is to install at once; 0 is none. */
        int dueSet;

        Node(int process, Wire shared) {
            self = process;
            wire = shared;
            streams = new Streams(process);
        }

        void reset() {
            in = false;
            side = 0;
            counter = 0;
            serial = 0;
            events.count = 0;
        }

        void enter() {
            in = true;
            counter++;
            promise = idOf(counter, self);
            maker = false;
            dueSet = 0;
            contacts.clear();
            attempt.giveUp();
            state.clear();
            openView(1 << self);
        }

        private void openView(int members) {
            view = promise;
            mode = MODE_OPEN;
            streams.startView(members, processOf(view));
            events.add(EVENT_VIEW, numberOf(view), processOf(view), members, state.applied);
        }

        void sayBye() {
            for (int q = 0; q < wire.processes; q++) {
                if (isOther(q, streams.members)) {
                    wire.compose(this, BYE, q);
                }
            }
        }

        void goOut() {
            in = false;
            events.add(EVENT_OUT, 0, 0, 0, 0);
        }

        int offer(int sort, int value) {
            if (mode != MODE_OPEN) {
                return -1;
            }
            if (streams.unstable() >= SEND_WINDOW) {
                return -2;
            }
            int number = post(sort, value);
            work();
            return number;
        }

        private boolean isOther(int q, int set) {
            return q != self && isIn(q, set);
        }

        private int post(int sort, int value) {
            int number = streams.addOwn(sort, value);
            for (int q = 0; q < wire.processes; q++) {
                if (isOther(q, streams.members)) {
                    sayData(number, q);
                }
            }
            return number;
        }

        private void sayData(int number, int q) {
            Packet k = wire.compose(this, DATA, q);
            streams.write(self, number, k, wire.processes);
        }

        private void work() {
            for (int i = 0; i < MOST_STEPS; i++) {
                int u = streams.passable(WORKING);
                if (u >= 0) {
                    passFront(u, state, true);
                    continue;
                }
                boolean mayOrder = processOf(view) == self && streams.unstable() < ORDER_WINDOW;
                u = mayOrder ? streams.unordered() : -1;
                if (u < 0) {
                    return;
                }
                post(ORDER, idOf(streams.done[u] + 1, u));
            }
        }

        /** Passes all that is still passed as a view ends. */
        private void endView(State target, boolean real) {
            int way = ENDING;
            for (int i = 0; i < MOST_STEPS; i++) {
                int u = streams.passable(way);
                if (u >= 0) {
                    passFront(u, target, real);
                } else if (way == ENDING) {
                    streams.orders.clear();
                    way = LEFTOVER;
                } else {
                    return;
                }
            }
        }

        private void passFront(int u, State target, boolean real) {
            int number = streams.done[u] + 1;
            int at = Streams.slot(u, number);
            int sort = streams.sorts[at];
            int value = streams.values[at];
            streams.done[u] = number;
            if (sort == ORDER) {
                return;
            }
            if (real) {
                events.add(EVENT_DELIVERY, u, number, sort, value);
            }
            if (sort == AGREED || sort == SAFE) {
                streams.orders.dropFirst();
                target.apply(u, value);
            }
        }

        /** Steps a and b of its turn. */
        void startTurn() {
            int reached = contacts.reached(self, wire);
            boolean least = (reached & (1 << self) - 1) == 0;
            if (attempt.phase != 0 && (!least || reached != attempt.set
                    || contacts.anyPromiseAbove(promise, attempt.set, self))) {
                attempt.giveUp();
            }
            if (attempt.phase == 0 && least && needsChange(reached)) {
                counter++;
                vow(idOf(counter, self));
                attempt.start(reached);
                attempt.addReply(self, view, streams.got, wire.processes);
                sayProposals();
            }
        }

        private boolean needsChange(int reached) {
            return mode != MODE_OPEN || reached != streams.members
                    || !contacts.allPromised(view, streams.members, self);
        }

        /** To promise an ID. */
        private void vow(int id) {
            promise = id;
            mode = MODE_PROMISED;
            attempt.giveUp();
            streams.dropBehindGaps();
        }

        private void sayProposals() {
            for (int q = 0; q < wire.processes; q++) {
                if (attempt.wantsReply(q)) {
                    wire.compose(this, PROPOSE, q).add(attempt.set);
                }
            }
        }

        private void sayCuts() {
            for (int q = 0; q < wire.processes; q++) {
                if (q != self && attempt.wantsReady(q)) {
                    attempt.writeCut(q, wire.compose(this, CUT, q), wire.processes);
                }
            }
        }

        /** Steps c, d and e of its turn. */
        void endTurn() {
            if (wire.time % REPEAT_TICKS == 0) {
                sayAgain();
            }
            if (wire.time % HELLO_TICKS == 0) {
                sayHellos();
            }
            if (mode == MODE_OPEN) {
                work();
            }
        }

        private void sayAgain() {
            if (attempt.phase == 1) {
                sayProposals();
            } else if (attempt.phase == 2) {
                sayCuts();
            }
            if (mode == MODE_CUT || mode == MODE_WHOLE) {
                fill();
            }
            if (mode == MODE_OPEN) {
                sayDataAgain();
                if (maker) {
                    sayInstallAgain();
                }
            }
        }

        private void sayDataAgain() {
            for (int number = streams.stable() + 1; number <= streams.got[self]; number++) {
                for (int q = 0; q < wire.processes; q++) {
                    if (isOther(q, streams.members) && streams.allDone[q][self] < number) {
                        sayData(number, q);
                    }
                }
            }
        }

        private void sayInstallAgain() {
            for (int q = 0; q < wire.processes; q++) {
                if (isOther(q, streams.members) && !contacts.knowsInView(q, view)) {
                    sayInstall(q);
                }
            }
        }

        private void sayInstall(int q) {
            Packet k = wire.compose(this, INSTALL, q);
            k.add(streams.members);
            told.write(k);
        }

        private void sayHellos() {
            for (int q = 0; q < wire.processes; q++) {
                if (q != self) {
                    Packet k = wire.compose(this, HELLO, q);
                    k.addAll(streams.done, wire.processes);
                    k.addAll(streams.got, wire.processes);
                }
            }
        }

        private void sayReady() {
            end.write(wire.compose(this, READY, processOf(promise)));
        }

        private void fill() {
            for (int u = 0; u < wire.processes; u++) {
                for (int number = cut.common(u) + 1; number <= cut.goal[u]; number++) {
                    if (cut.giver(u, number) == self) {
                        sayFills(u, number);
                    }
                }
            }
        }

        private void sayFills(int u, int number) {
            for (int t = 0; t < wire.processes; t++) {
                if (isOther(t, cut.team) && cut.have[t][u] < number) {
                    Packet k = wire.compose(this, FILL, t);
                    k.add(u);
                    streams.write(u, number, k, wire.processes);
                }
            }
        }

        /** What a packet does to its receiver, up to what settle does behind it. */
        void receive(Packet k) {
            contacts.hear(k, wire.time);
            counter = Math.max(counter, numberOf(k.promise));
            if (k.kind == HELLO || k.kind == DATA) {
                takeTalk(k);
                if (k.view == view && mode == MODE_OPEN) {
                    work();
                }
            } else if (k.kind == PROPOSE) {
                answerProposal(k);
            } else if (k.promise == promise && mode != MODE_OPEN) {
                takeChange(k);
            }
        }

        private void takeTalk(Packet k) {
            if (k.view != view) {
                return;
            }
            if (k.kind == HELLO) {
                streams.learn(k.from, k, wire.processes);
            } else if (mode == MODE_OPEN) {
                streams.take(k.from, k, 0, wire.processes);
            }
        }

        private void answerProposal(Packet k) {
            if (k.promise > promise) {
                vow(k.promise);
            } else if (k.promise != promise || mode != MODE_PROMISED) {
                return;
            }
            wire.compose(this, REPLY, k.from).addAll(streams.got, wire.processes);
        }

        private void takeChange(Packet k) {
            switch (k.kind) {
                case REPLY:
                    if (attempt.wantsReply(k.from)) {
                        attempt.addReply(k.from, k.view, k.body, wire.processes);
                    }
                    break;
                case CUT:
                    if (mode == MODE_PROMISED) {
                        cut.read(k, wire.processes);
                        mode = MODE_CUT;
                        fill();
                    } else if (mode == MODE_WHOLE) {
                        sayReady();
                    }
                    break;
                case FILL:
                    if (mode != MODE_WHOLE && k.view == view) {
                        streams.take(k.body[0], k, 1, wire.processes);
                    }
                    break;
                case READY:
                    if (attempt.wantsReady(k.from)) {
                        attempt.ready |= 1 << k.from;
                        attempt.ends[k.from].read(k, 0);
                    }
                    break;
                case INSTALL:
                    if (mode == MODE_WHOLE) {
                        dueSet = k.body[0];
                        told.read(k, 1);
                    }
                    break;
                default:
                    break;
            }
        }

        /** The steps of a change that follow at once, one upon the other. */
        void settle() {
            if (attempt.allReplied()) {
                cutOff();
            }
            if (mode == MODE_CUT && streams.hasAll(cut.goal)) {
                becomeWhole();
            }
            if (attempt.allReady()) {
                told.copy(attempt.ends[Math.max(0, attempt.foremost())]);
                dueSet = attempt.set;
            }
            if (dueSet != 0) {
                install();
            }
        }

        private void cutOff() {
            attempt.phase = 2;
            sayCuts();
            cut.readOwn(attempt, self, wire.processes);
            mode = MODE_CUT;
            fill();
        }

        private void becomeWhole() {
            mode = MODE_WHOLE;
            end.copy(state);
            streams.save();
            endView(end, false);
            streams.restore();
            if (processOf(promise) != self) {
                sayReady();
            } else if (attempt.phase == 2) {
                attempt.ready |= 1 << self;
                attempt.ends[self].copy(end);
            }
        }

        private void install() {
            int members = dueSet;
            dueSet = 0;
            endView(state, true);
            state.copy(told);
            if (state.owner >= 0 && !isIn(state.owner, members)) {
                state.owner = -1;
            }
            openView(members);
            maker = attempt.phase == 2;
            attempt.giveUp();
            for (int q = 0; q < wire.processes && maker; q++) {
                if (isOther(q, members)) {
                    sayInstall(q);
                }
            }
        }

        /** Of about, what it keeps for ever. */
        int lasting(int what) {
            switch (what) {
                case 0: return in ? 1 : 0;
                case 1: return side;
                case 2: return counter;
                case 3: return serial;
                default: return events.count;
            }
        }

        /** Of about, its views and its attempt. */
        int standing(int what) {
            switch (what) {
                case 5: return numberOf(view);
                case 6: return processOf(view);
                case 7: return streams.members;
                case 8: return numberOf(promise);
                case 9: return processOf(promise);
                case 10: return mode;
                case 11: return contacts.reached(self, wire);
                case 12: return attempt.phase;
                case 13: return attempt.set;
                case 14: return attempt.replied;
                default: return attempt.ready;
            }
        }

        /** Of about, its stream and its state. */
        int holding(int what) {
            switch (what) {
                case 16: return streams.stable();
                case 17: return streams.orders.count;
                case 18: return state.applied;
                case 19: return state.owner;
                default: return state.cells[what - 20 & 3];
            }
        }
    }
}
