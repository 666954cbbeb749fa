/** For each promise: ordinary inputs, the edges that the document names, and wrong inputs. */
public final class PromisesTest extends Checks {
    public static void main(String[] args) {
        test("promise 1", PromisesTest::newObject);
        test("promise 2", PromisesTest::begin);
        test("promise 2, after use", PromisesTest::beginAfterUse);
        test("promise 3", PromisesTest::join);
        test("promise 4", PromisesTest::leave);
        test("promise 5", PromisesTest::crash);
        test("promise 6", PromisesTest::send);
        test("promise 6, -1 and -2", PromisesTest::sendWindow);
        test("promise 7", PromisesTest::sides);
        test("promise 8", PromisesTest::tick);
        test("promise 8, attempts", PromisesTest::turnGivesUp);
        test("promises 8 and 9, a change", PromisesTest::changeByHand);
        test("promise 8, DATA again", PromisesTest::messagesSaidAgain);
        test("promise 9", PromisesTest::deliver);
        test("promise 9, elder packets", PromisesTest::elderPackets);
        test("promise 9, CAUSAL and FIFO", PromisesTest::causal);
        test("promise 9, AGREED", PromisesTest::agreed);
        test("promise 9, SAFE", PromisesTest::safe);
        test("promise 9, the head's window", PromisesTest::orderWindow);
        test("promise 9, FILL", PromisesTest::fill);
        test("promise 9, the end of a view", PromisesTest::endOfView);
        test("promise 9, what is told", PromisesTest::greatestApplied);
        test("promise 8, INSTALL again", PromisesTest::installSaidAgain);
        test("promise 10", PromisesTest::lose);
        test("promise 11", PromisesTest::go);
        test("promises 11 to 13, a full row", PromisesTest::fullRow);
        test("promise 12", PromisesTest::look);
        test("promise 13", PromisesTest::packet);
        test("promise 14", PromisesTest::about);
        test("promise 14, STATE", PromisesTest::state);
        test("promise 15", PromisesTest::stream);
        test("promise 16", PromisesTest::event);
        finish();
    }

    // ---- promise 1

    private static void newObject() {
        ViewHall x = new ViewHall();
        due("look(0)", x.look(0), 3);
        due("look(1)", x.look(1), 8);
        asAtFirst(x, 3);
    }

    // ---- promise 2

    private static void begin() {
        ViewHall x = new ViewHall();
        x.begin(2, 30);
        x.join(1);
        argument("begin(1, 8)", () -> x.begin(1, 8));
        argument("begin(7, 8)", () -> x.begin(7, 8));
        argument("begin(3, 5)", () -> x.begin(3, 5));
        argument("begin(3, 31)", () -> x.begin(3, 31));
        argument("begin(min, max)", () -> x.begin(Integer.MIN_VALUE, Integer.MAX_VALUE));
        due("look(0)", x.look(0), 2);
        due("look(1)", x.look(1), 30);
        due("about(1, 0)", x.about(1, 0), 1);
        x.part(3);
        x.tick();
        x.tick();
        due("look(3)", x.look(3), 1);
        x.begin(6, 6);
        due("look(0)", x.look(0), 6);
        due("look(1)", x.look(1), 6);
        asAtFirst(x, 6);
    }

    /** What a larger hall left behind in the object does not show. */
    private static void beginAfterUse() {
        ViewHall x = formed(3, 8);
        for (int i = 1; i <= 3; i++) {
            x.send(2, FIFO, i);
            carry(x, DATA, 2, 0);
            carry(x, DATA, 2, 1);
        }
        x.send(1, CAUSAL, 4);
        carry(x, DATA, 1, 0);
        due("stream(0, 1, 1, 0)", x.stream(0, 1, 1, 0), 1);
        x.begin(2, 8);
        asAtFirst(x, 2);
        x.join(0);
        x.join(1);
        x.go(30, 1, 0);
        loseAll(x);
        due("about(0, 7)", x.about(0, 7), 3);
        due("send(1, CAUSAL, 9)", x.send(1, CAUSAL, 9), 1);
        due("look(3)", x.look(3), 1);
        dueAll("body", body(x, 0, 7), 1, CAUSAL, 9, 0, 0, 0, 0);
        x.deliver(0);
        due("stream(0, 1, 1, 0)", x.stream(0, 1, 1, 0), 1);
        dueAll("event", lastEvent(x, 0), 2, 1, 1, CAUSAL, 9);
    }

    // ---- promise 3

    private static void join() {
        ViewHall x = new ViewHall();
        argument("join(-1)", () -> x.join(-1));
        argument("join(3)", () -> x.join(3));
        x.join(2);
        standing("join(2)", () -> x.join(2));
        int[] want = {1, 0, 1, 0, 1, 1, 2, 4, 1, 2, 0, 4, 0, 0, 0, 0, 0, 0, 0, -1, 0, 0, 0, 0};
        for (int what = 0; what < want.length; what++) {
            due("about(2, " + what + ")", x.about(2, what), want[what]);
        }
        dueAll("event", event(x, 2, 0), 1, 1, 2, 4, 0);
        x.send(2, AGREED, 2);
        x.tick();
        x.tick();
        due("about(2, 3)", x.about(2, 3), 2);
        x.crash(2);
        x.join(2);
        due("COUNTER", x.about(2, 2), 2);
        due("SERIAL", x.about(2, 3), 2);
        due("VIEW", x.about(2, 5), 2);
        due("APPLIED", x.about(2, 18), 0);
        due("OWNER", x.about(2, 19), -1);
        due("GOT", x.stream(2, 0, 2, 2), 0);
        dueAll("event", event(x, 2, 3), 1, 2, 2, 4, 0);
        rejoinForgets();
    }

    private static void rejoinForgets() {
        ViewHall x = formed(2, 8);
        due("reached", x.about(0, 11), 3);
        x.crash(0);
        due("reached when OUT", x.about(0, 11), 0);
        int counter = x.about(0, 2);
        x.join(0);
        due("COUNTER", x.about(0, 2), counter + 1);
        due("reached", x.about(0, 11), 1);
        due("MEMBERS", x.about(0, 7), 1);
    }

    // ---- promise 4

    private static void leave() {
        ViewHall x = formed(3, 8);
        x.crash(2);
        int serial = x.about(1, 3);
        argument("leave(-1)", () -> x.leave(-1));
        argument("leave(3)", () -> x.leave(3));
        standing("leave(2)", () -> x.leave(2));
        int number = x.about(1, 5);
        x.leave(1);
        due("look(3)", x.look(3), 2);
        dueAll("BYE", head(x, 0), BYE, 1, 0, x.look(2), serial + 1, number, 0, number, 0);
        dueAll("BYE", head(x, 1), BYE, 1, 2, x.look(2), serial + 2, number, 0, number, 0);
        dueAll("body", body(x, 0, 37), new int[37]);
        due("about(1, 0)", x.about(1, 0), 0);
        dueAll("event", lastEvent(x, 1), 3, 0, 0, 0, 0);
        standing("leave(1)", () -> x.leave(1));
        due("reached", x.about(0, 11) & 2, 2);
        x.deliver(0);
        due("reached", x.about(0, 11) & 2, 0);
        byeThenElder();
    }

    /** After a BYE an elder packet is heard again; what is KNOWN stays the newest. */
    private static void byeThenElder() {
        ViewHall x = formed(2, 8);
        x.tick();
        if (x.look(2) % 2 != 0) {
            x.tick();
        }
        x.leave(1);
        carry(x, BYE, 1, 0);
        due("reached", x.about(0, 11), 1);
        carry(x, HELLO, 1, 0);
        due("reached", x.about(0, 11), 3);
    }

    // ---- promise 5

    private static void crash() {
        ViewHall x = formed(3, 8);
        argument("crash(-1)", () -> x.crash(-1));
        argument("crash(3)", () -> x.crash(3));
        x.crash(1);
        standing("crash(1)", () -> x.crash(1));
        due("look(3)", x.look(3), 0);
        due("about(1, 0)", x.about(1, 0), 0);
        dueAll("event", lastEvent(x, 1), 3, 0, 0, 0, 0);
        x.go(30, 3, 0);
        due("MEMBERS of 0", x.about(0, 7), 5);
        due("MEMBERS of 2", x.about(2, 7), 5);
    }

    // ---- promise 6

    private static void send() {
        ViewHall x = formed(3, 8);
        x.crash(2);
        argument("send(-1, 0, 0)", () -> x.send(-1, 0, 0));
        argument("send(3, 0, 0)", () -> x.send(3, 0, 0));
        argument("send(0, -1, 0)", () -> x.send(0, -1, 0));
        argument("send(0, 4, 0)", () -> x.send(0, 4, 0));
        argument("send(2, 4, 0)", () -> x.send(2, 4, 0));
        standing("send(2, 0, 0)", () -> x.send(2, 0, 0));
        int events = x.about(0, 4);
        due("send", x.send(0, FIFO, Integer.MIN_VALUE), 1);
        due("look(3)", x.look(3), 2);
        due("to", x.packet(0, 2), 1);
        due("to", x.packet(1, 2), 2);
        dueAll("body", body(x, 0, 7), 1, FIFO, Integer.MIN_VALUE, 0, 0, 0, 0);
        due("send", x.send(0, CAUSAL, 7), 2);
        dueAll("body", body(x, 2, 7), 2, CAUSAL, 7, 1, 0, 0, 0);
        due("events", x.about(0, 4), events + 2);
        dueAll("event", event(x, 0, events), 2, 0, 1, FIFO, Integer.MIN_VALUE);
        dueAll("event", event(x, 0, events + 1), 2, 0, 2, CAUSAL, 7);
        due("send AGREED", x.send(0, AGREED, 1), 3);
        due("its ORDER counts", x.stream(0, 0, 0, 0), 4);
        due("send", x.send(0, FIFO, 1), 5);
    }

    private static void sendWindow() {
        ViewHall x = formed(2, 8);
        for (int i = 1; i <= 8; i++) {
            due("send", x.send(1, FIFO, i), i);
        }
        due("send", x.send(1, FIFO, 9), -2);
        due("look(3)", x.look(3), 8);
        due("STABLE", x.about(1, 16), 0);
        x.deliver(0);
        hellos(x);
        due("STABLE", x.about(1, 16), 1);
        due("send", x.send(1, FIFO, 9), 9);
        due("send", x.send(1, FIFO, 10), -2);
        // A process that has promised, but has not installed, sends nothing.
        ViewHall y = new ViewHall();
        y.join(0);
        y.join(1);
        y.tick();
        y.tick();
        carry(y, HELLO, 1, 0);
        y.tick();
        due("mode", y.about(0, 10), 1);
        due("send", y.send(0, FIFO, 1), -1);
        due("send", y.send(1, FIFO, 1), 1);
    }

    // ---- promise 7

    private static void sides() {
        ViewHall x = new ViewHall();
        x.part(5);
        due("side", x.about(0, 1), 2);
        due("side", x.about(1, 1), 1);
        due("side", x.about(2, 1), 0);
        argument("part(-1)", () -> x.part(-1));
        argument("part(min)", () -> x.part(Integer.MIN_VALUE));
        argument("part(27)", () -> x.part(27));
        argument("part(max)", () -> x.part(Integer.MAX_VALUE));
        due("side", x.about(0, 1), 2);
        x.part(26);
        for (int p = 0; p < 3; p++) {
            due("side", x.about(p, 1), 2);
        }
        x.begin(6, 6);
        x.part(728);
        due("side", x.about(5, 1), 2);
        argument("part(729)", () -> x.part(729));
        // What is sent between sides is lost as it would come; within a side it comes.
        x.part(1);
        x.join(0);
        x.join(1);
        x.join(2);
        x.tick();
        x.tick();
        carry(x, HELLO, 1, 0);
        carry(x, HELLO, 1, 2);
        due("reached", x.about(0, 11), 1);
        due("reached", x.about(2, 11), 6);
        x.part(0);
        carry(x, HELLO, 2, 0);
        due("reached", x.about(0, 11), 5);
    }

    // ---- promise 8

    private static void tick() {
        ViewHall x = new ViewHall();
        x.join(0);
        due("tick", x.tick(), 0);
        due("tick", x.tick(), 2);
        dueAll("HELLO", head(x, 0), HELLO, 0, 1, 2, 1, 1, 0, 1, 0);
        dueAll("HELLO", head(x, 1), HELLO, 0, 2, 2, 2, 1, 0, 1, 0);
        due("tick", x.tick(), 2);
        due("tick", x.tick(), 4);
        due("TIME", x.look(2), 4);
        // Heard not more than PATIENCE ticks ago.
        ViewHall y = new ViewHall();
        y.begin(2, 6);
        y.join(0);
        y.tick();
        y.join(1);
        y.tick();
        carry(y, HELLO, 0, 1);
        for (int i = 0; i < 6; i++) {
            due("reached", y.about(1, 11), 3);
            y.tick();
        }
        due("reached", y.about(1, 11), 3);
        y.tick();
        due("reached", y.about(1, 11), 2);
    }

    private static void turnGivesUp() {
        ViewHall x = new ViewHall();
        x.begin(3, 6);
        for (int p = 0; p < 3; p++) {
            x.join(p);
        }
        x.tick();
        x.tick();
        carry(x, HELLO, 2, 1);
        x.tick();
        due("phase of 1", x.about(1, 12), 1);
        due("S of 1", x.about(1, 13), 6);
        due("replied to 1", x.about(1, 14), 2);
        due("COUNTER of 1", x.about(1, 2), 2);
        // It is not the least any more: given up, and no new one begins.
        carry(x, HELLO, 0, 1);
        x.tick();
        due("phase of 1", x.about(1, 12), 0);
        due("S of 1", x.about(1, 13), 0);
        due("mode of 1", x.about(1, 10), 1);
        due("COUNTER of 1", x.about(1, 2), 2);
        due("no PROPOSE again", count(x, PROPOSE), 1);
        // One more is reached: the attempt is given up and a new one begins at once.
        carry(x, HELLO, 2, 0);
        x.tick();
        due("S of 0", x.about(0, 13), 5);
        due("PROMISE of 0", x.about(0, 8), 2);
        carry(x, HELLO, 1, 0);
        x.tick();
        due("S of 0", x.about(0, 13), 7);
        due("PROMISE of 0", x.about(0, 8), 3);
        // A known promise above its own: again a new one, above that.
        ViewHall y = new ViewHall();
        y.join(0);
        y.join(1);
        y.join(2);
        y.tick();
        y.tick();
        carry(y, HELLO, 1, 0);
        carry(y, HELLO, 2, 1);
        y.tick();
        due("PROMISE of 0", y.about(0, 8), 2);
        due("PROMISE of 1", y.about(1, 8), 2);
        loseAll(y);
        y.tick();
        carry(y, HELLO, 1, 0);
        y.tick();
        due("S of 0", y.about(0, 13), 3);
        due("PROMISE of 0", y.about(0, 8), 3);
    }

    /** A view of two made packet by packet. */
    private static void changeByHand() {
        ViewHall x = new ViewHall();
        x.join(0);
        x.join(1);
        x.tick();
        due("tick", x.tick(), 4);
        x.deliver(2);
        due("reached", x.about(0, 11), 3);
        due("tick", x.tick(), 4);
        dueAll("PROPOSE", head(x, 3), PROPOSE, 0, 1, 3, 3, 1, 0, 2, 0);
        dueAll("body", body(x, 3, 3), 3, 0, 0);
        due("tick", x.tick(), 9);
        due("kind", x.packet(4, 0), PROPOSE);
        x.deliver(3);
        due("mode of 1", x.about(1, 10), 1);
        due("PROMISE of 1", x.about(1, 8), 2);
        due("PROMISE of 1", x.about(1, 9), 0);
        due("COUNTER of 1", x.about(1, 2), 2);
        dueAll("REPLY", head(x, 8), REPLY, 1, 0, 4, 5, 1, 1, 2, 0);
        x.deliver(3);
        due("a REPLY again", count(x, REPLY), 2);
        x.deliver(find(x, REPLY, 1, 0));
        due("phase", x.about(0, 12), 2);
        due("replied", x.about(0, 14), 3);
        due("ready", x.about(0, 15), 1);
        due("mode of 0", x.about(0, 10), 3);
        int k = find(x, CUT, 0, 1);
        dueAll("CUT", body(x, k, 10), 2, 0, 0, 0, 0, 0, 0, 0, 0, 0);
        x.deliver(k);
        due("mode of 1", x.about(1, 10), 3);
        dueAll("READY", body(x, find(x, READY, 1, 0), 7), 0, -1, 0, 0, 0, 0, 0);
        x.deliver(find(x, READY, 1, 0));
        due("phase", x.about(0, 12), 0);
        due("S", x.about(0, 13), 0);
        due("mode of 0", x.about(0, 10), 0);
        due("VIEW of 0", x.about(0, 5), 2);
        due("MEMBERS of 0", x.about(0, 7), 3);
        dueAll("event", lastEvent(x, 0), 1, 2, 0, 3, 0);
        k = find(x, INSTALL, 0, 1);
        dueAll("INSTALL", head(x, k), INSTALL, 0, 1, 4, x.about(0, 3), 2, 0, 2, 0);
        dueAll("INSTALL", body(x, k, 8), 3, 0, -1, 0, 0, 0, 0, 0);
        due("VIEW of 1", x.about(1, 5), 1);
        x.deliver(k);
        due("VIEW of 1", x.about(1, 5), 2);
        due("VIEW of 1", x.about(1, 6), 0);
        due("MEMBERS of 1", x.about(1, 7), 3);
        due("mode of 1", x.about(1, 10), 0);
        dueAll("event", lastEvent(x, 1), 1, 2, 0, 3, 0);
    }

    private static void messagesSaidAgain() {
        ViewHall x = formed(3, 12);
        while (x.look(2) % 4 != 0) {
            hellos(x);
        }
        x.send(1, FIFO, 5);
        x.send(1, FIFO, 6);
        carry(x, DATA, 1, 0);
        loseAll(x);
        hellos(x);
        due("QDONE", x.stream(1, 2, 1, 0), 1);
        due("QDONE", x.stream(1, 2, 1, 2), 0);
        x.tick();
        due("no DATA", count(x, DATA), 0);
        x.tick();
        due("DATA", count(x, DATA), 3);
        int k = find(x, DATA, 1, 2);
        dueAll("DATA", body(x, k, 3), 1, FIFO, 5);
        due("for", x.packet(k + 1, 2), 0);
        due("number", x.packet(k + 1, 9), 2);
        due("for", x.packet(k + 2, 2), 2);
        due("number", x.packet(k + 2, 9), 2);
    }

    // ---- promise 9

    private static void deliver() {
        ViewHall x = new ViewHall();
        index("deliver(0)", () -> x.deliver(0));
        x.join(0);
        x.tick();
        x.tick();
        index("deliver(-1)", () -> x.deliver(-1));
        index("deliver(2)", () -> x.deliver(2));
        due("look(3)", x.look(3), 2);
        x.deliver(1);
        due("look(3)", x.look(3), 1);
        due("for", x.packet(0, 2), 1);
        // It came to one that is OUT: lost, and nothing of it is there after the join.
        due("COUNTER", x.about(2, 2), 0);
        x.join(2);
        due("reached", x.about(2, 11), 4);
    }

    /** An elder packet is heard, but what a newer one told stays known; its number counts all the same. */
    private static void elderPackets() {
        ViewHall x = new ViewHall();
        x.begin(2, 6);
        x.join(0);
        for (int i = 0; i < 4; i++) {
            x.join(1);
            x.crash(1);
        }
        x.join(1);
        due("COUNTER", x.about(1, 2), 5);
        x.tick();
        x.tick();
        carry(x, HELLO, 1, 0);
        due("COUNTER of 0", x.about(0, 2), 5);
        ViewHall y = formed(2, 6);
        while (y.look(2) % 4 != 1) {
            hellos(y);
            y.tick();
        }
        y.tick();
        int elder = find(y, HELLO, 1, 0);
        y.crash(1);
        y.join(1);
        y.tick();
        y.tick();
        int newer = -1;
        for (int k = 0; k < y.look(3); k++) {
            newer = y.packet(k, 0) == HELLO && y.packet(k, 1) == 1 ? k : newer;
        }
        y.deliver(newer);
        y.deliver(elder);
        int view = y.about(0, 5);
        y.tick();
        // The newer one's PROMISE is not 0's VIEW, so a change begins.
        due("phase", y.about(0, 12), 1);
        due("VIEW", y.about(0, 5), view);
    }

    private static void causal() {
        ViewHall x = formed(3, 12);
        x.send(0, CAUSAL, 1);
        carry(x, DATA, 0, 1);
        x.send(1, CAUSAL, 2);
        x.send(1, FIFO, 3);
        int events = x.about(2, 4);
        carry(x, DATA, 1, 2);
        due("GOT", x.stream(2, 0, 1, 0), 1);
        due("DONE", x.stream(2, 1, 1, 0), 0);
        carry(x, DATA, 1, 2);
        due("GOT", x.stream(2, 0, 1, 0), 2);
        due("DONE", x.stream(2, 1, 1, 0), 0);
        due("events", x.about(2, 4), events);
        carry(x, DATA, 0, 2);
        due("DONE", x.stream(2, 1, 1, 0), 2);
        dueAll("event", event(x, 2, events), 2, 0, 1, CAUSAL, 1);
        dueAll("event", event(x, 2, events + 1), 2, 1, 1, CAUSAL, 2);
        dueAll("event", event(x, 2, events + 2), 2, 1, 2, FIFO, 3);
        // FIFO is not held back by what is not clear for CAUSAL; a gap holds back all.
        loseAll(x);
        x.send(2, FIFO, 4);
        x.send(2, FIFO, 5);
        int k = find(x, DATA, 2, 0);
        x.deliver(k + 2);
        due("GOT behind a gap", x.stream(0, 0, 2, 0), 0);
        x.deliver(k);
        due("GOT", x.stream(0, 0, 2, 0), 2);
        due("DONE", x.stream(0, 1, 2, 0), 2);
    }

    private static void agreed() {
        ViewHall x = formed(3, 12);
        x.send(2, AGREED, 16);
        due("DONE", x.stream(2, 1, 2, 0), 0);
        carry(x, DATA, 2, 1);
        due("DONE", x.stream(1, 1, 2, 0), 0);
        carry(x, DATA, 2, 0);
        due("DONE of the head", x.stream(0, 1, 2, 0), 1);
        due("ORDERS of the head", x.about(0, 17), 0);
        int k = find(x, DATA, 0, 1);
        dueAll("ORDER", body(x, k, 6), 1, ORDER, 8 + 2, 0, 0, 0);
        // The order comes ahead of the next message: the entry waits.
        x.send(1, AGREED, 32);
        carry(x, DATA, 1, 0);
        carry(x, DATA, 0, 2);
        due("DONE", x.stream(2, 1, 2, 0), 1);
        carry(x, DATA, 0, 2);
        due("ORDERS", x.about(2, 17), 1);
        due("DONE of the head's", x.stream(2, 1, 0, 0), 2);
        carry(x, DATA, 1, 2);
        due("ORDERS", x.about(2, 17), 0);
        due("CELL", x.about(2, 20), 2);
        due("APPLIED", x.about(2, 18), 2);
        int events = x.about(1, 4);
        carry(x, DATA, 0, 1);
        carry(x, DATA, 0, 1);
        dueAll("event", event(x, 1, events), 2, 2, 1, AGREED, 16);
        dueAll("event", event(x, 1, events + 1), 2, 1, 1, AGREED, 32);
    }

    private static void safe() {
        ViewHall x = formed(2, 30);
        x.send(1, SAFE, 16);
        carry(x, DATA, 1, 0);
        due("ORDERS of the head", x.about(0, 17), 1);
        due("DONE of the head", x.stream(0, 1, 1, 0), 0);
        carry(x, DATA, 0, 1);
        due("ORDERS", x.about(1, 17), 1);
        due("DONE", x.stream(1, 1, 1, 0), 0);
        // AGREED behind it in ORDERS waits for it.
        x.send(0, AGREED, 32);
        due("DONE", x.stream(0, 1, 0, 0), 1);
        loseAll(x);
        do {
            x.tick();
        } while (x.look(2) % 2 != 0);
        carry(x, HELLO, 1, 0);
        due("QGOT", x.stream(0, 3, 1, 1), 1);
        due("QGOT", x.stream(0, 3, 0, 1), 1);
        due("DONE of the head", x.stream(0, 1, 1, 0), 1);
        due("CELL of the head", x.about(0, 20), 2);
        due("DONE of the other", x.stream(1, 1, 1, 0), 0);
        carry(x, HELLO, 0, 1);
        due("DONE of the other", x.stream(1, 1, 1, 0), 1);
        // Alone all have it at once.
        ViewHall y = new ViewHall();
        y.join(1);
        due("send", y.send(1, SAFE, 0), 1);
        due("DONE", y.stream(1, 1, 1, 1), 2);
        safeWaitsForAllBehind();
    }

    /** SAFE waits till the others have all that the process itself has passed. */
    private static void safeWaitsForAllBehind() {
        ViewHall x = formed(3, 30);
        x.send(2, FIFO, 1);
        carry(x, DATA, 2, 0);
        loseAll(x);
        x.send(1, SAFE, 16);
        carry(x, DATA, 1, 0);
        carry(x, DATA, 1, 2);
        carry(x, DATA, 0, 1);
        carry(x, DATA, 0, 2);
        hellos(x);
        due("QGOT", x.stream(0, 3, 1, 1), 1);
        due("QGOT", x.stream(0, 3, 0, 1), 1);
        due("QGOT", x.stream(0, 3, 2, 1), 0);
        due("DONE of the head", x.stream(0, 1, 1, 0), 0);
        due("DONE of one that lacks it too", x.stream(1, 1, 1, 0), 1);
        x.go(20, 1, 0);
        due("DONE of the head", x.stream(0, 1, 1, 0), 1);
    }

    /** The head posts no ORDER when 12 of its own are not stable; the next HELLOs set it going. */
    private static void orderWindow() {
        ViewHall x = formed(2, 30);
        for (int i = 1; i <= 7; i++) {
            due("send", x.send(0, FIFO, i), i);
        }
        for (int i = 1; i <= 8; i++) {
            due("send", x.send(1, AGREED, 1 + 16), i);
            carry(x, DATA, 1, 0);
        }
        due("GOT of the head's", x.stream(0, 0, 0, 0), 12);
        due("DONE", x.stream(0, 1, 1, 0), 5);
        due("send", x.send(0, FIFO, 8), -2);
        x.go(16, 1, 0);
        due("GOT of the head's", x.stream(0, 0, 0, 0), 15);
        due("DONE", x.stream(0, 1, 1, 0), 8);
        due("CELL", x.about(1, 20), 8);
        due("ORDERS", x.about(1, 17), 0);
    }

    /** What one has got of the crashed, the other gets before both install. */
    private static void fill() {
        ViewHall x = formed(4, 6);
        x.send(3, FIFO, 1);
        x.send(3, FIFO, 2);
        carry(x, DATA, 3, 1);
        carry(x, DATA, 3, 1);
        // To 2 only the second came: it is behind a gap, and dropped with the promise.
        x.deliver(find(x, DATA, 3, 2) + 2);
        x.crash(3);
        loseAll(x);
        for (int i = 0; i < 40 && find(x, CUT, 0, 2) < 0; i++) {
            x.tick();
            for (int k = 0; k < x.look(3);) {
                if (x.packet(k, 0) == CUT) {
                    k++;
                } else {
                    x.deliver(k);
                }
            }
        }
        int k = find(x, CUT, 0, 1);
        due("there is a CUT", k >= 0 ? 1 : 0, 1);
        dueAll("CUT", body(x, k, 18), 7, 0, 0, 0, 0, 0, 0, 0, 2, 0, 0, 0, 0, 0, 0, 0, 0, 0);
        due("mode of 0", x.about(0, 10), 2);
        loseOthers(x, CUT);
        carry(x, CUT, 0, 1);
        due("mode of 1", x.about(1, 10), 3);
        due("FILLs", count(x, FILL), 4);
        int f = find(x, FILL, 1, 0);
        dueAll("FILL", body(x, f, 8), 3, 1, FIFO, 1, 0, 0, 0, 0);
        due("for", x.packet(f + 1, 2), 2);
        due("number", x.packet(f + 1, 10), 1);
        due("number", x.packet(f + 2, 10), 2);
        // In MODE 1 a FILL is taken, too; here the second ahead of the first.
        x.deliver(f + 3);
        due("GOT", x.stream(2, 0, 3, 0), 0);
        carry(x, FILL, 1, 2);
        due("GOT", x.stream(2, 0, 3, 0), 2);
        due("DONE", x.stream(2, 1, 3, 0), 0);
        carry(x, CUT, 0, 2);
        due("mode of 2", x.about(2, 10), 3);
        carry(x, FILL, 1, 0);
        due("mode of 0", x.about(0, 10), 2);
        carry(x, FILL, 1, 0);
        due("mode of 0", x.about(0, 10), 3);
        carry(x, READY, 1, 0);
        carry(x, READY, 2, 0);
        int events = x.about(0, 4);
        dueAll("event", event(x, 0, events - 3), 2, 3, 1, FIFO, 1);
        dueAll("event", event(x, 0, events - 2), 2, 3, 2, FIFO, 2);
        due("event", x.event(0, events - 1, 3), 7);
        carry(x, INSTALL, 0, 2);
        due("MEMBERS of 2", x.about(2, 7), 7);
    }

    /** As a view ends SAFE is passed as AGREED, then what is in no order, but nothing that is not clear. */
    private static void endOfView() {
        ViewHall x = formed(3, 6);
        // 2 has 1's SAFE message and no order for it; 1 has not 2's own message that it depends on.
        x.send(1, SAFE, 16);
        carry(x, DATA, 1, 2);
        x.send(2, AGREED, 2);
        x.send(2, FIFO, 3);
        x.crash(0);
        loseAll(x);
        int events = x.about(2, 4);
        x.go(30, 1, 0);
        due("MEMBERS of 1", x.about(1, 7), 6);
        due("MEMBERS of 2", x.about(2, 7), 6);
        for (int p = 1; p <= 2; p++) {
            dueAll("event", event(x, p, events), 2, 1, 1, SAFE, 16);
            dueAll("event", event(x, p, events + 1), 2, 2, 1, AGREED, 2);
            dueAll("event", event(x, p, events + 2), 2, 2, 2, FIFO, 3);
            due("event", x.event(p, events + 3, 0), 1);
            due("APPLIED in the event", x.event(p, events + 3, 4), 2);
            due("CELL", x.about(p, 20), 1);
            due("OWNER", x.about(p, 19), 2);
        }
        // What nobody has that is left is not in the past of anything passed.
        ViewHall y = formed(3, 6);
        y.send(0, FIFO, 1);
        carry(y, DATA, 0, 1);
        y.send(1, CAUSAL, 2);
        carry(y, DATA, 1, 2);
        y.crash(0);
        y.crash(1);
        loseAll(y);
        events = y.about(2, 4);
        y.go(20, 1, 0);
        due("events", y.about(2, 4), events + 1);
        due("event", y.event(2, events, 0), 1);
        due("MEMBERS", y.about(2, 7), 4);
    }

    private static void greatestApplied() {
        ViewHall x = new ViewHall();
        x.begin(3, 6);
        for (int p = 0; p < 3; p++) {
            x.join(p);
        }
        x.send(0, AGREED, 16);
        x.send(1, AGREED, 2);
        x.send(1, AGREED, 32);
        x.send(2, AGREED, 2);
        x.send(2, AGREED, 48);
        x.go(40, 1, 0);
        for (int p = 0; p < 3; p++) {
            due("MEMBERS", x.about(p, 7), 7);
            due("APPLIED", x.about(p, 18), 2);
            due("OWNER", x.about(p, 19), 1);
            due("CELL", x.about(p, 20), 2);
        }
        // The owner goes with the one that is not in the view any more.
        x.crash(1);
        x.go(40, 1, 0);
        due("MEMBERS", x.about(0, 7), 5);
        due("OWNER", x.about(0, 19), -1);
        due("OWNER", x.about(2, 19), -1);
        due("CELL", x.about(2, 20), 2);
    }

    /** The INSTALL is lost: its maker says it again, the owner as it was told. */
    private static void installSaidAgain() {
        ViewHall x = formed(3, 6);
        x.send(2, AGREED, 2);
        x.go(10, 1, 0);
        due("OWNER", x.about(1, 19), 2);
        x.crash(2);
        loseAll(x);
        for (int i = 0; i < 40 && find(x, INSTALL, 0, 1) < 0; i++) {
            x.tick();
            while (x.look(3) > 0 && x.packet(0, 0) != INSTALL) {
                x.deliver(0);
            }
        }
        int k = find(x, INSTALL, 0, 1);
        dueAll("INSTALL", body(x, k, 7), 3, 1, 2, 0, 0, 0, 0);
        due("OWNER of the maker", x.about(0, 19), -1);
        x.lose(k);
        due("mode of 1", x.about(1, 10), 3);
        loseAll(x);
        for (int i = 0; i < 4 && find(x, INSTALL, 0, 1) < 0; i++) {
            x.tick();
        }
        due("multiple of 4", x.look(2) % 4, 0);
        dueAll("INSTALL", body(x, find(x, INSTALL, 0, 1), 7), 3, 1, 2, 0, 0, 0, 0);
        carry(x, INSTALL, 0, 1);
        due("mode of 1", x.about(1, 10), 0);
        due("OWNER of 1", x.about(1, 19), -1);
    }

    // ---- promise 10

    private static void lose() {
        ViewHall x = new ViewHall();
        index("lose(0)", () -> x.lose(0));
        x.join(0);
        x.join(1);
        x.tick();
        x.tick();
        index("lose(-1)", () -> x.lose(-1));
        index("lose(4)", () -> x.lose(4));
        x.lose(1);
        due("look(3)", x.look(3), 3);
        due("look(4)", x.look(4), 4);
        due("from", x.packet(1, 1), 1);
        x.lose(2);
        x.lose(0);
        due("look(3)", x.look(3), 1);
        due("for", x.packet(0, 2), 0);
        due("reached", x.about(1, 11), 2);
        x.lose(0);
        due("look(3)", x.look(3), 0);
        index("lose(0)", () -> x.lose(0));
    }

    // ---- promise 11

    private static void go() {
        ViewHall x = new ViewHall();
        x.join(0);
        argument("go(0, 1, 0)", () -> x.go(0, 1, 0));
        argument("go(61, 1, 0)", () -> x.go(61, 1, 0));
        argument("go(1, 1, -1)", () -> x.go(1, 1, -1));
        argument("go(1, 1, 17)", () -> x.go(1, 1, 17));
        due("TIME", x.look(2), 0);
        due("go", x.go(60, 1, 16), 0);
        due("TIME", x.look(2), 60);
        due("sent", x.look(4), 60);
        for (int seed = -3; seed < 20; seed++) {
            goAsSingleCalls(seed, seed < 0 ? 0 : seed % 7);
        }
    }

    /** go does what its single steps, each called by itself, would do. */
    private static void goAsSingleCalls(int seed, int loss) {
        ViewHall x = new ViewHall();
        ViewHall y = new ViewHall();
        for (int p = 0; p < 3; p++) {
            x.join(p);
            y.join(p);
        }
        int drawn = seed;
        int times = 12;
        for (int i = 0; i < times; i++) {
            int left = y.tick();
            int k = 0;
            for (; left > 0; left--) {
                drawn = drawn * 1103515245 + 12345;
                int high = drawn >>> 16;
                if (high % 16 < loss) {
                    y.lose(k);
                } else if (y.look(2) - y.packet(k, 3) < 3 && (high / 16) % 4 != 0) {
                    k++;
                } else {
                    y.deliver(k);
                }
            }
        }
        due("go", x.go(times, seed, loss), y.look(3));
        due("sent", x.look(4), y.look(4));
        for (int k = 0; k < Math.min(x.look(3), y.look(3)); k++) {
            dueAll("packet " + k, head(x, k), head(y, k));
        }
        for (int p = 0; p < 3; p++) {
            for (int what = 0; what < 24; what++) {
                due("about(" + p + ", " + what + ")", x.about(p, what), y.about(p, what));
            }
        }
    }

    /** 600 packets are the most; one more is lost as it is sent, but counts. */
    private static void fullRow() {
        ViewHall x = new ViewHall();
        x.begin(6, 6);
        for (int p = 0; p < 6; p++) {
            x.join(p);
        }
        for (int i = 0; i < 40; i++) {
            x.tick();
        }
        due("look(3)", x.look(3), 600);
        due("look(4)", x.look(4), 600);
        due("tick", x.tick(), 600);
        due("tick", x.tick(), 600);
        due("look(4)", x.look(4), 630);
        due("SERIAL", x.about(0, 3), 105);
        due("the last one's SERIAL", x.packet(599, 4), 100);
        // The one that is delivered has gone from the row when its receiver sends.
        x.lose(0);
        x.lose(0);
        x.tick();
        x.tick();
        due("look(3)", x.look(3), 600);
        due("from", x.packet(598, 1), 0);
        due("SERIAL", x.packet(599, 4), 107);
        index("packet(600, 0)", () -> x.packet(600, 0));
    }

    // ---- promise 12

    private static void look() {
        ViewHall x = new ViewHall();
        argument("look(-1)", () -> x.look(-1));
        argument("look(5)", () -> x.look(5));
        x.begin(5, 11);
        x.join(4);
        x.tick();
        x.tick();
        x.tick();
        x.lose(2);
        int[] want = {5, 11, 3, 3, 4};
        for (int what = 0; what < 5; what++) {
            due("look(" + what + ")", x.look(what), want[what]);
        }
    }

    // ---- promise 13

    private static void packet() {
        ViewHall x = new ViewHall();
        index("packet(0, 99)", () -> x.packet(0, 99));
        x.join(0);
        x.join(1);
        x.go(30, 1, 0);
        loseAll(x);
        // Its room held longer bodies before: behind its own end there is 0.
        x.send(0, FIFO, 3);
        dueAll("body", body(x, 0, 37), wide(37, 1, FIFO, 3));
        x.leave(0);
        dueAll("body", body(x, 1, 37), new int[37]);
        argument("packet(0, -1)", () -> x.packet(0, -1));
        argument("packet(0, 46)", () -> x.packet(0, 46));
        index("packet(2, -1)", () -> x.packet(2, -1));
        index("packet(-1, 0)", () -> x.packet(-1, 0));
        // A CUT in a hall of six fills all of it.
        ViewHall y = new ViewHall();
        y.begin(6, 8);
        for (int p = 0; p < 6; p++) {
            y.join(p);
        }
        y.go(40, 1, 0);
        y.send(5, FIFO, 1);
        y.go(10, 1, 0);
        y.crash(0);
        int k = -1;
        for (int i = 0; i < 40 && k < 0; i++) {
            y.tick();
            for (int left = y.look(3), at = 0; left > 0; left--) {
                if (y.packet(at, 0) == CUT) {
                    at++;
                } else {
                    y.deliver(at);
                }
            }
            k = find(y, CUT, 1, 5);
        }
        due("there is a CUT", k >= 0 ? 1 : 0, 1);
        due("T", y.packet(k, 9), 62);
        due("GOT of 1 of stream 5", y.packet(k, 10 + 6 + 5), 1);
        due("GOT of 5 of stream 5", y.packet(k, 45), 1);
        due("GOT of 0 of stream 5", y.packet(k, 10 + 5), 0);
    }

    private static int[] wide(int length, int... first) {
        return java.util.Arrays.copyOf(first, length);
    }

    // ---- promise 14

    private static void about() {
        ViewHall x = formed(3, 8);
        argument("about(-1, 0)", () -> x.about(-1, 0));
        argument("about(3, 0)", () -> x.about(3, 0));
        argument("about(0, -1)", () -> x.about(0, -1));
        argument("about(0, 24)", () -> x.about(0, 24));
        x.send(1, FIFO, 1);
        due("STABLE", x.about(1, 16), 0);
        carry(x, DATA, 1, 0);
        carry(x, DATA, 1, 2);
        hellos(x);
        due("STABLE", x.about(1, 16), 1);
        x.part(3);
        x.crash(1);
        due("side when OUT", x.about(1, 1), 1);
        due("COUNTER when OUT", x.about(1, 2) > 0 ? 1 : 0, 1);
        due("SERIAL when OUT", x.about(1, 3) > 0 ? 1 : 0, 1);
        for (int what = 5; what < 24; what++) {
            due("about(1, " + what + ")", x.about(1, what), 0);
        }
    }

    /** What each value does to the STATE. */
    private static void state() {
        ViewHall x = new ViewHall();
        x.join(1);
        x.send(1, AGREED, 5 << 4 | 3 << 2);
        due("cell set", x.about(1, 23), 5);
        x.send(1, SAFE, -7 << 4 | 3 << 2 | 1);
        due("cell added to", x.about(1, 23), -2);
        x.send(1, AGREED, Integer.MIN_VALUE | 1 << 2);
        due("cell set", x.about(1, 21), Integer.MIN_VALUE >> 4);
        x.send(1, FIFO, 0);
        x.send(1, CAUSAL, 9 << 4 | 1 << 2);
        due("cell", x.about(1, 21), Integer.MIN_VALUE >> 4);
        due("APPLIED", x.about(1, 18), 3);
        for (int i = 0; i < 20; i++) {
            x.send(1, AGREED, Integer.MAX_VALUE & ~15 | 2 << 2 | 1);
        }
        due("as an int", x.about(1, 22), (Integer.MAX_VALUE >> 4) * 20);
        due("OWNER", x.about(1, 19), -1);
        x.send(1, AGREED, 2);
        due("OWNER", x.about(1, 19), 1);
        x.send(1, AGREED, 2);
        due("OWNER", x.about(1, 19), 1);
        x.send(1, AGREED, 3);
        due("OWNER", x.about(1, 19), -1);
        x.send(1, AGREED, 3);
        due("OWNER", x.about(1, 19), -1);
        due("APPLIED", x.about(1, 18), 27);
        // Another's claim and another's going change no owner that there is.
        ViewHall y = formed(2, 8);
        y.send(0, AGREED, 2);
        y.go(8, 1, 0);
        y.send(1, AGREED, 2);
        y.go(8, 1, 0);
        y.send(1, AGREED, 3);
        y.go(8, 1, 0);
        due("APPLIED", y.about(1, 18), 3);
        due("OWNER", y.about(0, 19), 0);
        due("OWNER", y.about(1, 19), 0);
    }

    // ---- promise 15

    private static void stream() {
        ViewHall x = formed(3, 8);
        argument("stream(-1, 0, 0, 0)", () -> x.stream(-1, 0, 0, 0));
        argument("stream(3, 0, 0, 0)", () -> x.stream(3, 0, 0, 0));
        argument("stream(0, -1, 0, 0)", () -> x.stream(0, -1, 0, 0));
        argument("stream(0, 4, 0, 0)", () -> x.stream(0, 4, 0, 0));
        argument("stream(0, 0, -1, 0)", () -> x.stream(0, 0, -1, 0));
        argument("stream(0, 0, 3, 0)", () -> x.stream(0, 0, 3, 0));
        argument("stream(0, 0, 0, -1)", () -> x.stream(0, 0, 0, -1));
        argument("stream(0, 0, 0, 3)", () -> x.stream(0, 0, 0, 3));
        x.send(1, AGREED, 1);
        due("GOT", x.stream(1, 0, 1, 2), 1);
        due("DONE", x.stream(1, 1, 1, 2), 0);
        due("own QGOT", x.stream(1, 3, 1, 1), 1);
        due("own QDONE", x.stream(1, 2, 1, 1), 0);
        carry(x, DATA, 1, 0);
        loseAll(x);
        do {
            x.tick();
        } while (x.look(2) % 2 != 0);
        // Of two HELLOs the greatest counts, whichever comes last.
        int elder = find(x, HELLO, 0, 2);
        x.send(0, FIFO, 1);
        x.tick();
        x.tick();
        int newer = -1;
        for (int k = 0; k < x.look(3); k++) {
            newer = x.packet(k, 0) == HELLO && x.packet(k, 1) == 0 && x.packet(k, 2) == 2 ? k : newer;
        }
        x.deliver(newer);
        due("QGOT", x.stream(2, 3, 1, 0), 1);
        due("QDONE", x.stream(2, 2, 1, 0), 1);
        due("QGOT", x.stream(2, 3, 0, 0), 2);
        due("QDONE", x.stream(2, 2, 0, 0), 2);
        x.deliver(elder);
        due("QGOT", x.stream(2, 3, 0, 0), 2);
        x.crash(2);
        due("QGOT when OUT", x.stream(2, 3, 0, 0), 0);
        x.go(30, 1, 0);
        due("MEMBERS", x.about(0, 7), 3);
        due("QGOT of no member", x.stream(0, 3, 0, 2), 0);
        due("GOT in a new view", x.stream(0, 0, 0, 0), 0);
    }

    // ---- promise 16

    private static void event() {
        ViewHall x = new ViewHall();
        argument("event(-1, 0, 0)", () -> x.event(-1, 0, 0));
        argument("event(3, 0, 0)", () -> x.event(3, 0, 0));
        argument("event(0, 0, 5)", () -> x.event(0, 0, 5));
        argument("event(0, -1, -1)", () -> x.event(0, -1, -1));
        index("event(0, 0, 0)", () -> x.event(0, 0, 0));
        for (int i = 0; i < 32; i++) {
            x.join(0);
            x.crash(0);
        }
        due("events", x.about(0, 4), 64);
        dueAll("event", event(x, 0, 0), 1, 1, 0, 1, 0);
        x.join(0);
        index("event(0, 0, 0)", () -> x.event(0, 0, 0));
        index("event(0, 65, 0)", () -> x.event(0, 65, 0));
        index("event(0, -1, 0)", () -> x.event(0, -1, 0));
        index("event(0, min, 0)", () -> x.event(0, Integer.MIN_VALUE, 0));
        dueAll("event", event(x, 0, 1), 3, 0, 0, 0, 0);
        dueAll("event", event(x, 0, 64), 1, 33, 0, 1, 0);
        x.send(0, FIFO, 77);
        dueAll("event", event(x, 0, 65), 2, 0, 1, FIFO, 77);
        index("event(0, 1, 0)", () -> x.event(0, 1, 0));
    }
}
