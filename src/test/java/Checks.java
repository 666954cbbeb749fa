import java.util.Arrays;
import java.util.function.IntConsumer;
import java.util.stream.IntStream;

/** What the tests share: how an answer is held against the one that is due, and moves by the public face alone. */
abstract class Checks {
    static final int HELLO = 0;
    static final int DATA = 1;
    static final int PROPOSE = 2;
    static final int REPLY = 3;
    static final int CUT = 4;
    static final int FILL = 5;
    static final int READY = 6;
    static final int INSTALL = 7;
    static final int BYE = 8;
    static final int FIFO = 0;
    static final int CAUSAL = 1;
    static final int AGREED = 2;
    static final int SAFE = 3;
    static final int ORDER = 4;

    static final Class<?> ARGUMENT = IllegalArgumentException.class;
    static final Class<?> STATE = IllegalStateException.class;
    static final Class<?> INDEX = IndexOutOfBoundsException.class;

    private static int wrong = 0;
    private static int passed = 0;
    private static int failed = 0;
    private static String part = "";

    interface Call {
        void run();
    }

    // ---- tests and what is due

    /** One test; its words are the document's where they are short. */
    static void test(String words, Call run) {
        part = words;
        int before = wrong;
        try {
            run.run();
        } catch (RuntimeException e) {
            wrong++;
            System.out.println(part + ": ended with " + e + " at " + e.getStackTrace()[0]);
        }
        if (wrong == before) {
            passed++;
        } else {
            failed++;
        }
    }

    static void finish() {
        System.out.println(passed + " passed, " + failed + " failed");
        if (failed != 0) {
            System.exit(1);
        }
    }

    static void due(String call, long got, long want) {
        if (got != want) {
            wrong++;
            System.out.println(part + ": " + call + " answered " + got + ", due is " + want);
        }
    }

    static void dueAll(String call, int[] got, int... want) {
        due(call + " length", got.length, want.length);
        for (int i = 0; i < Math.min(got.length, want.length); i++) {
            due(call + " [" + i + "]", got[i], want[i]);
        }
    }

    static void throwing(String call, Class<?> want, Call run) {
        Class<?> got = null;
        try {
            run.run();
        } catch (RuntimeException e) {
            got = e.getClass();
        }
        if (got != want) {
            wrong++;
            System.out.println(part + ": " + call + " threw " + got + ", due is " + want);
        }
    }

    static void argument(String call, Call run) {
        throwing(call, ARGUMENT, run);
    }

    static void standing(String call, Call run) {
        throwing(call, STATE, run);
    }

    static void index(String call, Call run) {
        throwing(call, INDEX, run);
    }

    /** A call that throws this, and changes nothing. */
    static void refused(ViewHall x, Class<?> want, String call, Call run) {
        unchanged(x, call, () -> throwing(call, want, run));
    }

    /** Refused are the values next to those that are taken, and the least and the greatest of all. */
    static void outside(ViewHall x, Class<?> want, String call, int least, int greatest, IntConsumer run) {
        for (int value : new int[] {Integer.MIN_VALUE, least - 1, greatest + 1, Integer.MAX_VALUE}) {
            refused(x, want, call + " of " + value, () -> run.accept(value));
        }
    }

    static void unchanged(ViewHall x, String call, Call run) {
        int[] before = all(x);
        run.run();
        due(call + " changed something", Arrays.equals(before, all(x)) ? 0 : 1, 0);
    }

    /** All that can be asked of a hall. */
    static int[] all(ViewHall x) {
        IntStream.Builder row = IntStream.builder();
        for (int what = 0; what < 5; what++) {
            row.add(x.look(what));
        }
        for (int p = 0; p < x.look(0); p++) {
            allOf(x, p, row);
        }
        for (int k = 0; k < x.look(3); k++) {
            for (int what = 0; what < 46; what++) {
                row.add(x.packet(k, what));
            }
        }
        return row.build().toArray();
    }

    private static void allOf(ViewHall x, int p, IntStream.Builder row) {
        for (int what = 0; what < 24; what++) {
            row.add(x.about(p, what));
        }
        int n = x.look(0);
        for (int i = 0; i < 4 * n * n; i++) {
            row.add(x.stream(p, i / n / n, i / n % n, i % n));
        }
        for (int k = Math.max(0, x.about(p, 4) - 64); k < x.about(p, 4); k++) {
            for (int what = 0; what < 5; what++) {
                row.add(x.event(p, k, what));
            }
        }
    }

    static void asAtFirst(ViewHall x, int n) {
        for (int what = 2; what < 5; what++) {
            due("look(" + what + ")", x.look(what), 0);
        }
        for (int p = 0; p < n; p++) {
            for (int what = 0; what < 24; what++) {
                due("about(" + p + ", " + what + ")", x.about(p, what), 0);
            }
            for (int what = 0; what < 4; what++) {
                due("stream(" + p + ", " + what + ", 0, 1)", x.stream(p, what, 0, 1), 0);
            }
            int q = p;
            index("event(" + p + ", 0, 0)", () -> x.event(q, 0, 0));
        }
        argument("about(n, 0)", () -> x.about(n, 0));
        index("packet(0, 0)", () -> x.packet(0, 0));
    }

    // ---- halls

    /** n processes that have joined; TIME is 0. */
    static ViewHall joined(int n, int patience) {
        ViewHall x = new ViewHall();
        x.begin(n, patience);
        for (int p = 0; p < n; p++) {
            x.join(p);
        }
        return x;
    }

    /** Joined, at TIME 2, when all have said HELLO. */
    static ViewHall saidHello(int n, int patience) {
        ViewHall x = joined(n, patience);
        x.tick();
        x.tick();
        return x;
    }

    /** Six processes that say 30 HELLOs each second tick, none of which comes: the row is full at TIME 40. */
    static ViewHall filling(int ticks) {
        ViewHall x = joined(6, 30);
        for (int i = 0; i < ticks; i++) {
            x.tick();
        }
        return x;
    }

    /** n processes, all OPEN in one view of all, nothing under way; TIME is 40. */
    static ViewHall formed(int n, int patience) {
        ViewHall x = joined(n, patience);
        x.go(40, 1, 0);
        loseAll(x);
        for (int p = 0; p < n; p++) {
            due("members of " + p, x.about(p, 7), (1 << n) - 1);
            due("mode of " + p, x.about(p, 10), 0);
        }
        return x;
    }

    /** n processes, each in a view of its own; 0 has heard all and proposes to them; TIME is 3. */
    static ViewHall proposing(int n) {
        ViewHall x = saidHello(n, 30);
        for (int p = 1; p < n; p++) {
            carry(x, HELLO, p, 0);
        }
        loseAll(x);
        x.tick();
        due("PROPOSEs", count(x, PROPOSE), n - 1);
        return x;
    }

    /** In a formed hall the last process leaves, and 0 proposes to the rest: the next TIME, 41 if none went by. */
    static void leaveLast(ViewHall x) {
        int last = x.look(0) - 1;
        x.leave(last);
        carry(x, BYE, last, 0);
        loseAll(x);
        x.tick();
        due("PROPOSEs", count(x, PROPOSE), last - 1);
    }

    /** Four, the last of which left two messages that 1 has and 0 and 2 lack; 0 proposes to 1 and 2. TIME is 41. */
    static ViewHall lacking() {
        ViewHall x = formed(4, 30);
        x.send(3, FIFO, 1);
        x.send(3, FIFO, 2);
        carry(x, DATA, 3, 1);
        carry(x, DATA, 3, 1);
        leaveLast(x);
        return x;
    }

    /** All that 0 proposed to reply, and 0 cuts. */
    static void replyAll(ViewHall x) {
        for (int p = 1; p < x.look(0); p++) {
            if (find(x, PROPOSE, 0, p) >= 0) {
                carry(x, PROPOSE, 0, p);
            }
        }
        for (int p = 1; p < x.look(0); p++) {
            if (find(x, REPLY, p, 0) >= 0) {
                carry(x, REPLY, p, 0);
            }
        }
        due("phase of 0", x.about(0, 12), 2);
    }

    /** 0 has 3's first message, 1 has both, 2 none; 3 left, and 0 has cut off. TIME is 41. */
    static ViewHall partlyLacking() {
        ViewHall x = formed(4, 30);
        x.send(3, FIFO, 1);
        x.send(3, FIFO, 2);
        carry(x, DATA, 3, 1);
        carry(x, DATA, 3, 1);
        carry(x, DATA, 3, 0);
        leaveLast(x);
        replyAll(x);
        return x;
    }

    /** Three, each alone: 1 has proposed (2, 1) to 2, and 0 then (3, 0), which is above it, to 1; TIME is 3. */
    static ViewHall rivals() {
        ViewHall x = joined(3, 30);
        x.crash(0);
        x.join(0);
        x.tick();
        x.tick();
        carry(x, HELLO, 2, 1);
        carry(x, HELLO, 1, 0);
        x.tick();
        due("phase of 1", phase(x, 1), 1);
        promise(x, 1, 2, 1);
        promise(x, 0, 3, 0);
        return x;
    }

    /** 0 has installed a view of three, at TIME 3; both INSTALLs are under way. */
    static ViewHall installing() {
        ViewHall x = proposing(3);
        replyAll(x);
        for (int p = 1; p <= 2; p++) {
            carry(x, CUT, 0, p);
            carry(x, READY, p, 0);
        }
        due("MODE of 0", mode(x, 0), 0);
        due("INSTALLs", count(x, INSTALL), 2);
        return x;
    }

    /** A hall of n in the middle of things: messages, packets of several kinds, and one process that left. */
    static ViewHall busy(int n) {
        ViewHall x = formed(n, 7);
        x.send(0, SAFE, 18);
        x.send(1, AGREED, 33);
        x.go(3, 5, 2);
        x.send(0, CAUSAL, 4);
        x.leave(n - 1);
        x.tick();
        x.part(1);
        due("packets are under way", x.look(3) > 0 ? 1 : 0, 1);
        return x;
    }

    // ---- moves and looks

    static void loseAll(ViewHall x) {
        for (int left = x.look(3); left > 0; left--) {
            x.lose(0);
        }
    }

    static void loseOthers(ViewHall x, int kind) {
        for (int k = 0; k < x.look(3);) {
            if (x.packet(k, 0) == kind) {
                k++;
            } else {
                x.lose(k);
            }
        }
    }

    /** Ticks on, all packets lost, till the next TIME that is such a multiple. */
    static void tickTo(ViewHall x, int multiple) {
        do {
            loseAll(x);
            x.tick();
        } while (x.look(2) % multiple != 0);
    }

    /** The oldest packet of this kind between these two, or -1. */
    static int find(ViewHall x, int kind, int from, int to) {
        for (int k = 0; k < x.look(3); k++) {
            if (x.packet(k, 0) == kind && x.packet(k, 1) == from && x.packet(k, 2) == to) {
                return k;
            }
        }
        return -1;
    }

    /** The latest one, or -1. */
    static int findLast(ViewHall x, int kind, int from, int to) {
        for (int k = x.look(3) - 1; k >= 0; k--) {
            if (x.packet(k, 0) == kind && x.packet(k, 1) == from && x.packet(k, 2) == to) {
                return k;
            }
        }
        return -1;
    }

    static boolean carry(ViewHall x, int kind, int from, int to) {
        return carryAt(x, find(x, kind, from, to), kind, from, to);
    }

    static boolean carryLast(ViewHall x, int kind, int from, int to) {
        return carryAt(x, findLast(x, kind, from, to), kind, from, to);
    }

    private static boolean carryAt(ViewHall x, int k, int kind, int from, int to) {
        due("packet of kind " + kind + " from " + from + " to " + to + " is there", k >= 0 ? 1 : 0, 1);
        if (k >= 0) {
            x.deliver(k);
        }
        return k >= 0;
    }

    /** Delivers the DATA with this number. */
    static void carryData(ViewHall x, int from, int to, int number) {
        for (int k = 0; k < x.look(3); k++) {
            if (x.packet(k, 0) == DATA && x.packet(k, 1) == from && x.packet(k, 2) == to && x.packet(k, 9) == number) {
                x.deliver(k);
                return;
            }
        }
        due("DATA " + number + " from " + from + " to " + to + " is there", 0, 1);
    }

    /** No packet is sent, and the modes stay. */
    static void nothingComesOf(ViewHall x, int kind, int from, int to) {
        int sent = x.look(4);
        int mode = mode(x, to);
        int number = x.about(to, 8);
        int events = x.about(to, 4);
        carry(x, kind, from, to);
        due("sent", x.look(4), sent);
        due("MODE", mode(x, to), mode);
        due("PROMISE", x.about(to, 8), number);
        due("events", x.about(to, 4), events);
    }

    static int mode(ViewHall x, int p) {
        return x.about(p, 10);
    }

    static int phase(ViewHall x, int p) {
        return x.about(p, 12);
    }

    static int got(ViewHall x, int p, int u) {
        return x.stream(p, 0, u, 0);
    }

    static int done(ViewHall x, int p, int u) {
        return x.stream(p, 1, u, 0);
    }

    static void promise(ViewHall x, int p, int number, int process) {
        due("PROMISE of " + p + ", number", x.about(p, 8), number);
        due("PROMISE of " + p + ", process", x.about(p, 9), process);
    }

    static int count(ViewHall x, int kind) {
        int found = 0;
        for (int k = 0; k < x.look(3); k++) {
            found += x.packet(k, 0) == kind ? 1 : 0;
        }
        return found;
    }

    static int[] body(ViewHall x, int k, int length) {
        int[] body = new int[length];
        for (int i = 0; i < length; i++) {
            body[i] = x.packet(k, 9 + i);
        }
        return body;
    }

    static int[] head(ViewHall x, int k) {
        int[] head = new int[9];
        for (int i = 0; i < 9; i++) {
            head[i] = x.packet(k, i);
        }
        return head;
    }

    static int[] event(ViewHall x, int p, int k) {
        int[] row = new int[5];
        for (int i = 0; i < 5; i++) {
            row[i] = x.event(p, k, i);
        }
        return row;
    }

    static int[] lastEvent(ViewHall x, int p) {
        return event(x, p, x.about(p, 4) - 1);
    }

    /** Ticks on to the next even time, all HELLOs of which are delivered, all else lost. */
    static void hellos(ViewHall x) {
        do {
            x.tick();
        } while (x.look(2) % 2 != 0);
        while (x.look(3) > 0) {
            if (x.packet(0, 0) == HELLO) {
                x.deliver(0);
            } else {
                x.lose(0);
            }
        }
    }
}
