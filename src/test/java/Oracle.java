import java.util.ArrayList;
import java.util.Arrays;
import java.util.HashMap;
import java.util.List;
import java.util.Map;

/**
 * The document once more, word by word and with no thought of space: every message is kept for
 * the whole view, and each step calls the next one as the document tells it. Tests compare the
 * class with it. It answers valid calls only.
 */
final class Oracle {
    record Id(int number, int process) {
        boolean above(Id other) {
            return number != other.number ? number > other.number : process > other.process;
        }
    }

    static final class Pkt {
        int kind, from, to, time, serial;
        Id view, promise;
        int[] body;
    }

    record Msg(int sort, int value, int[] past) { }

    static final class St {
        int applied, owner = -1;
        int[] cells = new int[4];

        St copy() {
            St c = new St();
            c.applied = applied;
            c.owner = owner;
            c.cells = cells.clone();
            return c;
        }

        void change(int u, int w) {
            applied += 1;
            int c = (w >> 2) & 3;
            int x = w >> 4;
            if ((w & 3) == 0) {
                cells[c] = x;
            } else if ((w & 3) == 1) {
                cells[c] = cells[c] + x;
            } else if ((w & 3) == 2) {
                if (owner == -1) {
                    owner = u;
                }
            } else if (owner == u) {
                owner = -1;
            }
        }

        int[] numbers() {
            return new int[] {applied, owner, cells[0], cells[1], cells[2], cells[3]};
        }

        static St of(int[] body, int at) {
            St s = new St();
            s.applied = body[at];
            s.owner = body[at + 1];
            s.cells = Arrays.copyOfRange(body, at + 2, at + 6);
            return s;
        }
    }

    static final class Try {
        Id id;
        int set, phase = 1;
        Map<Integer, Id> replyView = new HashMap<>();
        Map<Integer, int[]> replyGot = new HashMap<>();
        Map<Integer, St> ready = new HashMap<>();
    }

    /** What a process has while it is IN. */
    final class Life {
        final Proc p;
        Id view, promise;
        int members, mode;
        Map<Integer, Integer> heard = new HashMap<>();
        Map<Integer, Pkt> newest = new HashMap<>();
        List<Map<Integer, Msg>> has = new ArrayList<>();
        int[] got, done;
        int[][] qdone, qgot;
        List<int[]> orders = new ArrayList<>();
        St state = new St();
        Try attempt;
        int cutTeam;
        int[][] have;
        int[] goal;
        St end;
        boolean byAttempt;
        St told;

        Life(Proc p) {
            this.p = p;
            p.counter++;
            promise = new Id(p.counter, p.id);
            newView(1 << p.id);
        }

        void newView(int set) {
            view = promise;
            members = set;
            mode = 0;
            has.clear();
            for (int u = 0; u < n; u++) {
                has.add(new HashMap<>());
            }
            got = new int[n];
            done = new int[n];
            qdone = new int[n][n];
            qgot = new int[n][n];
            orders.clear();
            p.log(1, view.number, view.process, members, state.applied);
        }

        boolean member(int q) {
            return (members >> q & 1) == 1;
        }

        int qDone(int q, int u) {
            return q == p.id ? done[u] : qdone[q][u];
        }

        int qGot(int q, int u) {
            return q == p.id ? got[u] : qgot[q][u];
        }

        int stable() {
            int least = Integer.MAX_VALUE;
            for (int q = 0; q < n; q++) {
                if (member(q)) {
                    least = Math.min(least, qDone(q, p.id));
                }
            }
            return least;
        }

        int reaches() {
            int e = 1 << p.id;
            for (Map.Entry<Integer, Integer> h : heard.entrySet()) {
                if (time - h.getValue() <= patience) {
                    e |= 1 << h.getKey();
                }
            }
            return e;
        }

        void emit(int kind, int to, int... body) {
            p.serial++;
            sent++;
            Pkt k = new Pkt();
            k.kind = kind;
            k.from = p.id;
            k.to = to;
            k.time = time;
            k.serial = p.serial;
            k.view = view;
            k.promise = promise;
            k.body = body;
            if (row.size() < 600) {
                row.add(k);
            }
        }

        void obtain(int u, int number, Msg m) {
            has.get(u).putIfAbsent(number, m);
            while (has.get(u).containsKey(got[u] + 1)) {
                got[u]++;
                Msg g = has.get(u).get(got[u]);
                if (g.sort == 4) {
                    orders.add(new int[] {g.value % 8, g.value / 8, got[u]});
                }
            }
        }

        int[] dataBody(int number, Msg m) {
            return join(new int[] {number, m.sort, m.value}, m.past);
        }

        int post(int sort, int value) {
            int number = got[p.id] + 1;
            Msg m = new Msg(sort, value, done.clone());
            obtain(p.id, number, m);
            for (int q = 0; q < n; q++) {
                if (q != p.id && member(q)) {
                    emit(1, q, dataBody(number, m));
                }
            }
            return number;
        }

        Msg front(int u) {
            return got[u] > done[u] ? has.get(u).get(done[u] + 1) : null;
        }

        boolean clear(Msg m) {
            for (int v = 0; v < n; v++) {
                if (m.past[v] > done[v]) {
                    return false;
                }
            }
            return true;
        }

        boolean firstOrder(int u) {
            return !orders.isEmpty() && orders.get(0)[0] == u && orders.get(0)[1] == done[u] + 1;
        }

        boolean safe(int u) {
            for (int q = 0; q < n; q++) {
                if (!member(q)) {
                    continue;
                }
                if (qGot(q, u) < done[u] + 1 || qGot(q, view.process) < orders.get(0)[2]) {
                    return false;
                }
                for (int v = 0; v < n; v++) {
                    if (qGot(q, v) < done[v]) {
                        return false;
                    }
                }
            }
            return true;
        }

        boolean can(int u, boolean ending) {
            Msg m = front(u);
            if (m == null) {
                return false;
            }
            return switch (m.sort) {
                case 4, 0 -> true;
                case 1 -> clear(m);
                case 2 -> clear(m) && firstOrder(u);
                default -> clear(m) && firstOrder(u) && (ending || safe(u));
            };
        }

        void pass(int u, St target, boolean logged) {
            Msg m = front(u);
            done[u]++;
            if (m.sort == 4) {
                return;
            }
            if (logged) {
                p.log(2, u, done[u], m.sort, m.value);
            }
            if (m.sort >= 2) {
                target.change(u, m.value);
            }
        }

        boolean passOne(boolean ending, St target, boolean logged) {
            for (int u = 0; u < n; u++) {
                if (can(u, ending)) {
                    boolean ordered = front(u).sort == 2 || front(u).sort == 3;
                    pass(u, target, logged);
                    if (ordered) {
                        orders.remove(0);
                    }
                    return true;
                }
            }
            return false;
        }

        boolean inOrders(int u, int number) {
            for (int[] o : orders) {
                if (o[0] == u && o[1] == number) {
                    return true;
                }
            }
            return false;
        }

        void work() {
            while (true) {
                while (passOne(false, state, true)) { }
                if (view.process != p.id || got[p.id] - stable() >= 12) {
                    return;
                }
                int found = -1;
                for (int u = n - 1; u >= 0; u--) {
                    Msg m = front(u);
                    if (m != null && (m.sort == 2 || m.sort == 3) && clear(m) && !inOrders(u, done[u] + 1)) {
                        found = u;
                    }
                }
                if (found < 0) {
                    return;
                }
                post(4, 8 * (done[found] + 1) + found);
            }
        }

        void finishView(St target, boolean logged) {
            while (passOne(true, target, logged)) { }
            orders.clear();
            boolean more = true;
            while (more) {
                more = false;
                for (int u = 0; u < n && !more; u++) {
                    Msg m = front(u);
                    if (m != null && (m.sort == 4 || m.sort == 0 || clear(m))) {
                        pass(u, target, logged);
                        more = true;
                    }
                }
            }
        }

        void promise(Id id) {
            promise = id;
            mode = 1;
            attempt = null;
            for (int u = 0; u < n; u++) {
                int limit = got[u];
                has.get(u).keySet().removeIf(k -> k > limit);
            }
        }

        void turn() {
            int e = reaches();
            boolean least = Integer.lowestOneBit(e) == 1 << p.id;
            if (attempt != null) {
                boolean over = !least || e != attempt.set;
                for (int q = 0; q < n; q++) {
                    if (q != p.id && (attempt.set >> q & 1) == 1 && newest.containsKey(q)
                            && newest.get(q).promise.above(attempt.id)) {
                        over = true;
                    }
                }
                if (over) {
                    attempt = null;
                }
            }
            if (attempt == null && least && wanted(e)) {
                propose(e);
            }
            if (time % 4 == 0) {
                again();
            }
            if (time % 2 == 0) {
                for (int q = 0; q < n; q++) {
                    if (q != p.id) {
                        emit(0, q, join(done, got));
                    }
                }
            }
            if (mode == 0) {
                work();
            }
        }

        boolean wanted(int e) {
            if (mode != 0 || e != members) {
                return true;
            }
            for (int q = 0; q < n; q++) {
                if (q != p.id && member(q) && (!newest.containsKey(q) || !newest.get(q).promise.equals(view))) {
                    return true;
                }
            }
            return false;
        }

        void propose(int e) {
            p.counter++;
            promise(new Id(p.counter, p.id));
            attempt = new Try();
            attempt.id = promise;
            attempt.set = e;
            attempt.replyView.put(p.id, view);
            attempt.replyGot.put(p.id, got.clone());
            for (int q = 0; q < n; q++) {
                if (q != p.id && (e >> q & 1) == 1) {
                    emit(2, q, e);
                }
            }
            if (attempt.replyView.size() == Integer.bitCount(e)) {
                cuts();
            }
        }

        void again() {
            if (attempt != null && attempt.phase == 1) {
                for (int q = 0; q < n; q++) {
                    if ((attempt.set >> q & 1) == 1 && !attempt.replyView.containsKey(q)) {
                        emit(2, q, attempt.set);
                    }
                }
            } else if (attempt != null) {
                for (int q = 0; q < n; q++) {
                    if (q != p.id && (attempt.set >> q & 1) == 1 && !attempt.ready.containsKey(q)) {
                        emit(4, q, cutFor(q));
                    }
                }
            }
            if (mode == 2 || mode == 3) {
                fills();
            }
            if (mode == 0) {
                for (int k = stable() + 1; k <= got[p.id]; k++) {
                    for (int q = 0; q < n; q++) {
                        if (q != p.id && member(q) && qdone[q][p.id] < k) {
                            emit(1, q, dataBody(k, has.get(p.id).get(k)));
                        }
                    }
                }
                for (int q = 0; q < n && byAttempt; q++) {
                    if (q != p.id && member(q) && (!newest.containsKey(q) || !newest.get(q).view.equals(view))) {
                        emit(7, q, join(new int[] {members}, told.numbers()));
                    }
                }
            }
        }

        int[] cutFor(int q) {
            int[] body = new int[1 + n * n];
            for (int t = 0; t < n; t++) {
                if ((attempt.set >> t & 1) == 1 && attempt.replyView.get(t).equals(attempt.replyView.get(q))) {
                    body[0] |= 1 << t;
                    System.arraycopy(attempt.replyGot.get(t), 0, body, 1 + t * n, n);
                }
            }
            return body;
        }

        void cuts() {
            attempt.phase = 2;
            for (int q = 0; q < n; q++) {
                if (q != p.id && (attempt.set >> q & 1) == 1) {
                    emit(4, q, cutFor(q));
                }
            }
            takeCut(cutFor(p.id));
        }

        void takeCut(int[] body) {
            cutTeam = body[0];
            have = new int[n][];
            goal = new int[n];
            for (int t = 0; t < n; t++) {
                have[t] = Arrays.copyOfRange(body, 1 + t * n, 1 + t * n + n);
                for (int u = 0; u < n; u++) {
                    goal[u] = Math.max(goal[u], have[t][u]);
                }
            }
            mode = 2;
            fills();
            lookWhole();
        }

        void fills() {
            for (int u = 0; u < n; u++) {
                for (int k = 1; k <= goal[u]; k++) {
                    int giver = -1;
                    for (int w = n - 1; w >= 0; w--) {
                        if ((cutTeam >> w & 1) == 1 && have[w][u] >= k) {
                            giver = w;
                        }
                    }
                    for (int t = 0; t < n; t++) {
                        if (t != p.id && (cutTeam >> t & 1) == 1 && have[t][u] < k && giver == p.id) {
                            emit(5, t, join(new int[] {u}, dataBody(k, has.get(u).get(k))));
                        }
                    }
                }
            }
        }

        void lookWhole() {
            if (!Arrays.equals(got, goal)) {
                return;
            }
            mode = 3;
            int[] keptDone = done.clone();
            List<int[]> keptOrders = new ArrayList<>(orders);
            end = state.copy();
            finishView(end, false);
            done = keptDone;
            orders = keptOrders;
            if (promise.process != p.id) {
                emit(6, promise.process, end.numbers());
            } else if (attempt != null && attempt.phase == 2) {
                makeReady(p.id, end.copy());
            }
        }

        void makeReady(int q, St with) {
            attempt.ready.put(q, with);
            if (attempt.ready.size() < Integer.bitCount(attempt.set)) {
                return;
            }
            St best = null;
            for (int t = 0; t < n; t++) {
                St e = attempt.ready.get(t);
                if (e != null && (best == null || e.applied > best.applied)) {
                    best = e;
                }
            }
            int set = attempt.set;
            install(set, best);
            byAttempt = true;
            told = best;
            for (int t = 0; t < n; t++) {
                if (t != p.id && (set >> t & 1) == 1) {
                    emit(7, t, join(new int[] {set}, best.numbers()));
                }
            }
            attempt = null;
        }

        void install(int set, St with) {
            finishView(state, true);
            state = with.copy();
            if (state.owner >= 0 && (set >> state.owner & 1) == 0) {
                state.owner = -1;
            }
            byAttempt = false;
            newView(set);
        }

        void receive(Pkt k) {
            if (k.kind == 8) {
                heard.remove(k.from);
            } else {
                heard.put(k.from, time);
            }
            if (!newest.containsKey(k.from) || newest.get(k.from).serial < k.serial) {
                newest.put(k.from, k);
            }
            p.counter = Math.max(p.counter, k.promise.number);
            switch (k.kind) {
                case 0 -> hello(k);
                case 1 -> {
                    if (mode == 0 && view.equals(k.view)) {
                        obtain(k.from, k.body[0], message(k.body, 1));
                        work();
                    }
                }
                case 2 -> {
                    if (k.promise.above(promise)) {
                        promise(k.promise);
                        emit(3, k.from, got.clone());
                    } else if (k.promise.equals(promise) && mode == 1) {
                        emit(3, k.from, got.clone());
                    }
                }
                case 8 -> { }
                default -> {
                    if (k.promise.equals(promise) && mode != 0) {
                        change(k);
                    }
                }
            }
        }

        void hello(Pkt k) {
            if (!view.equals(k.view)) {
                return;
            }
            for (int u = 0; u < n; u++) {
                qdone[k.from][u] = Math.max(qdone[k.from][u], k.body[u]);
                qgot[k.from][u] = Math.max(qgot[k.from][u], k.body[n + u]);
            }
            if (mode == 0) {
                work();
            }
        }

        Msg message(int[] body, int at) {
            return new Msg(body[at], body[at + 1], Arrays.copyOfRange(body, at + 2, at + 2 + n));
        }

        void change(Pkt k) {
            boolean mine = attempt != null && (attempt.set >> k.from & 1) == 1;
            if (k.kind == 3) {
                if (mine && attempt.phase == 1 && !attempt.replyView.containsKey(k.from)) {
                    attempt.replyView.put(k.from, k.view);
                    attempt.replyGot.put(k.from, k.body);
                    if (attempt.replyView.size() == Integer.bitCount(attempt.set)) {
                        cuts();
                    }
                }
            } else if (k.kind == 4) {
                if (mode == 1) {
                    takeCut(k.body);
                } else if (mode == 3) {
                    emit(6, promise.process, end.numbers());
                }
            } else if (k.kind == 5) {
                if ((mode == 1 || mode == 2) && k.view.equals(view)) {
                    obtain(k.body[0], k.body[1], message(k.body, 2));
                    if (mode == 2) {
                        lookWhole();
                    }
                }
            } else if (k.kind == 6) {
                if (mine && attempt.phase == 2 && !attempt.ready.containsKey(k.from)) {
                    makeReady(k.from, St.of(k.body, 0));
                }
            } else if (k.kind == 7 && mode == 3) {
                install(k.body[0], St.of(k.body, 1));
            }
        }
    }

    static final class Proc {
        final int id;
        int side, counter, serial;
        List<int[]> events = new ArrayList<>();
        Life life;

        Proc(int id) {
            this.id = id;
        }

        void log(int... e) {
            events.add(e);
        }
    }

    int n, patience, time, sent;
    List<Pkt> row;
    Proc[] procs;

    Oracle() {
        begin(3, 8);
    }

    static int[] join(int[] a, int[] b) {
        int[] c = Arrays.copyOf(a, a.length + b.length);
        System.arraycopy(b, 0, c, a.length, b.length);
        return c;
    }

    void begin(int processes, int newPatience) {
        n = processes;
        patience = newPatience;
        time = 0;
        sent = 0;
        row = new ArrayList<>();
        procs = new Proc[n];
        for (int p = 0; p < n; p++) {
            procs[p] = new Proc(p);
        }
    }

    boolean isIn(int p) {
        return procs[p].life != null;
    }

    void join(int p) {
        procs[p].life = new Life(procs[p]);
    }

    void leave(int p) {
        Life life = procs[p].life;
        for (int q = 0; q < n; q++) {
            if (q != p && life.member(q)) {
                life.emit(8, q);
            }
        }
        crash(p);
    }

    void crash(int p) {
        procs[p].life = null;
        procs[p].log(3, 0, 0, 0, 0);
    }

    int send(int p, int sort, int value) {
        Life life = procs[p].life;
        if (life.mode != 0) {
            return -1;
        }
        if (life.got[p] - life.stable() >= 8) {
            return -2;
        }
        int number = life.post(sort, value);
        life.work();
        return number;
    }

    void part(int sides) {
        for (int p = 0; p < n; p++) {
            procs[p].side = sides % 3;
            sides /= 3;
        }
    }

    int tick() {
        time++;
        for (Proc p : procs) {
            if (p.life != null) {
                p.life.turn();
            }
        }
        return row.size();
    }

    void deliver(int k) {
        deliver(row.get(k));
    }

    private void deliver(Pkt k) {
        lose(k);
        Proc r = procs[k.to];
        if (r.life != null && r.side == procs[k.from].side) {
            r.life.receive(k);
        }
    }

    void lose(int k) {
        row.remove(k);
    }

    private void lose(Pkt k) {
        for (int i = 0; i < row.size(); i++) {
            if (row.get(i) == k) {
                row.remove(i);
                return;
            }
        }
    }

    int go(int times, int seed, int loss) {
        for (int i = 0; i < times; i++) {
            tick();
            for (Pkt k : new ArrayList<>(row)) {
                seed = seed * 1103515245 + 12345;
                int x = seed >>> 16;
                if (x % 16 < loss) {
                    lose(k);
                } else if (!(time - k.time < 3 && x / 16 % 4 != 0)) {
                    deliver(k);
                }
            }
        }
        return row.size();
    }

    int look(int what) {
        return new int[] {n, patience, time, row.size(), sent}[what];
    }

    int packet(int k, int what) {
        Pkt g = row.get(k);
        if (what >= 9) {
            return what - 9 < g.body.length ? g.body[what - 9] : 0;
        }
        return new int[] {g.kind, g.from, g.to, g.time, g.serial, g.view.number, g.view.process,
            g.promise.number, g.promise.process}[what];
    }

    int about(int p, int what) {
        Proc g = procs[p];
        if (what < 5) {
            return new int[] {g.life == null ? 0 : 1, g.side, g.counter, g.serial, g.events.size()}[what];
        }
        if (g.life == null) {
            return 0;
        }
        Life l = g.life;
        Try t = l.attempt;
        return new int[] {l.view.number, l.view.process, l.members, l.promise.number, l.promise.process, l.mode,
            l.reaches(), t == null ? 0 : t.phase, t == null ? 0 : t.set, t == null ? 0 : set(t.replyView),
            t == null ? 0 : set(t.ready), l.stable(), l.orders.size(), l.state.applied, l.state.owner,
            l.state.cells[0], l.state.cells[1], l.state.cells[2], l.state.cells[3]}[what - 5];
    }

    private static int set(Map<Integer, ?> of) {
        int s = 0;
        for (int q : of.keySet()) {
            s |= 1 << q;
        }
        return s;
    }

    int stream(int p, int what, int u, int q) {
        Life l = procs[p].life;
        if (l == null) {
            return 0;
        }
        if (what == 0) {
            return l.got[u];
        }
        if (what == 1) {
            return l.done[u];
        }
        if (!l.member(q)) {
            return 0;
        }
        return what == 2 ? l.qDone(q, u) : l.qGot(q, u);
    }

    boolean keeps(int p, int k) {
        int size = procs[p].events.size();
        return k >= 0 && k < size && k >= size - 64;
    }

    int event(int p, int k, int what) {
        return procs[p].events.get(k)[what];
    }
}
