import java.util.ArrayList;
import java.util.Arrays;
import java.util.List;
import java.util.function.IntConsumer;

/** The promises 1 to 16: for each sentence that names an edge of a call a test of its own. */
public final class BoundaryCallsTest extends Checks {
    private static final int LEAST = Integer.MIN_VALUE;
    private static final int GREATEST = Integer.MAX_VALUE;

    public static void main(String[] args) {
        allCalls();
        newAndBegin();
        joinLeaveCrash();
        sendAndPart();
        tickDeliverLose();
        goCalls();
        lookAndPacket();
        aboutStreamEvent();
        finish();
    }

    private static void allCalls() {
        test("An exception is thrown ahead of any change", BoundaryCallsTest::refusedChangesNothing);
        test("An exception is thrown ahead of any change: what comes later", BoundaryCallsTest::refusedLeavesNoTrace);
        test("of several the one told first", BoundaryCallsTest::firstTold);
        test("used for at most 512 calls", BoundaryCallsTest::manyCalls);
    }

    private static void newAndBegin() {
        test("1: Three processes", BoundaryCallsTest::newHasThree);
        test("1: PATIENCE 8", BoundaryCallsTest::newHasPatienceEight);
        test("1: all as at first", BoundaryCallsTest::newIsAsAtFirst);
        test("2: processes is not 2 .. 6", BoundaryCallsTest::beginProcesses);
        test("2: patience not 6 .. 30", BoundaryCallsTest::beginPatience);
        test("2: All is as at first", BoundaryCallsTest::beginIsAsAtFirst);
        test("2: All is as at first: what comes later", BoundaryCallsTest::beginLeavesNoTrace);
    }

    private static void joinLeaveCrash() {
        test("3: there is none such", () -> noSuchProcess("join", x -> x::join));
        test("3: it is IN", BoundaryCallsTest::joinWhenIn);
        test("4: IllegalArgumentException likewise", () -> noSuchProcess("leave", x -> x::leave));
        test("4: it is OUT", () -> refusedWhenOut("leave", x -> x::leave));
        test("5: Likewise: no such process", () -> noSuchProcess("crash", x -> x::crash));
        test("5: Likewise: it is OUT", () -> refusedWhenOut("crash", x -> x::crash));
    }

    private static void sendAndPart() {
        test("6: no such process", () -> noSuchProcess("send", x -> p -> x.send(p, FIFO, 0)));
        test("6: no such sort", BoundaryCallsTest::sendSorts);
        test("6: it is OUT", () -> refusedWhenOut("send", x -> p -> x.send(p, SAFE, 0)));
        test("6: -1 if it is not OPEN: MODE 1", BoundaryCallsTest::sendWhenPromised);
        test("6: -1 if it is not OPEN: MODE 2", BoundaryCallsTest::sendWhenCut);
        test("6: -1 if it is not OPEN: MODE 3", BoundaryCallsTest::sendWhenWhole);
        test("6: -1 ahead of -2", BoundaryCallsTest::sendNotOpenAndFull);
        test("6: -2 if GOT less STABLE is 8", BoundaryCallsTest::sendEight);
        test("6: -2 if GOT less STABLE is more than 8", BoundaryCallsTest::sendMoreThanEight);
        test("6: the answer is its number", BoundaryCallsTest::sendNumbers);
        test("6: any value", BoundaryCallsTest::sendValues);
        test("7: sides is below 0", BoundaryCallsTest::partBelowZero);
        test("7: or something is left", BoundaryCallsTest::partLeft);
        test("7: a digit 0 .. 2 each, that of process 0 lowest", BoundaryCallsTest::partDigits);
    }

    private static void tickDeliverLose() {
        test("8: how many packets are under way then", BoundaryCallsTest::tickCounts);
        test("8: nobody is IN", BoundaryCallsTest::tickOfNobody);
        test("9: there is none such", () -> noSuchPacket("deliver", x -> x::deliver));
        test("9: 0 the oldest", BoundaryCallsTest::deliverEnds);
        test("10: Likewise", () -> noSuchPacket("lose", x -> x::lose));
        test("10: It is lost", BoundaryCallsTest::loseEnds);
    }

    private static void goCalls() {
        test("11: times is not 1 .. 60", BoundaryCallsTest::goTimes);
        test("11: loss not 0 .. 16", BoundaryCallsTest::goLoss);
        test("11: below loss, it is lost", BoundaryCallsTest::goBelowLoss);
        test("11: x / 16 modulo 4 is not 0, it stays", BoundaryCallsTest::goStays);
        test("11: sent less than 3 ticks ago", BoundaryCallsTest::goThreeTicks);
        test("11: under way then, each once", BoundaryCallsTest::goEachOnce);
        test("11: seed as an int", BoundaryCallsTest::goSeeds);
    }

    private static void lookAndPacket() {
        test("12: another what", BoundaryCallsTest::lookWhat);
        test("13: there is none such", () -> noSuchPacket("packet", x -> k -> x.packet(k, 0)));
        test("13: what is not 0 .. 45", BoundaryCallsTest::packetWhat);
        test("13: 0 behind its end", BoundaryCallsTest::packetBehindEnd);
        test("13: the longest body", BoundaryCallsTest::packetLongest);
    }

    private static void aboutStreamEvent() {
        test("14: no such process", () -> noSuchProcess("about", x -> p -> x.about(p, 0)));
        test("14: or another what", BoundaryCallsTest::aboutWhat);
        test("14: The rest is 0 when it is OUT", BoundaryCallsTest::aboutOut);
        test("14: all four 0 without one", BoundaryCallsTest::aboutNoAttempt);
        test("15: no such process p", () -> noSuchProcess("stream p", x -> p -> x.stream(p, 0, 0, 0)));
        test("15: no such u", () -> noSuchProcess("stream u", x -> u -> x.stream(0, 1, u, 0)));
        test("15: no such q", () -> noSuchProcess("stream q", x -> q -> x.stream(0, 0, 0, q)));
        test("15: or another what", BoundaryCallsTest::streamWhat);
        test("15: 0 when it is OUT", BoundaryCallsTest::streamOut);
        test("15: its own, if q is p", BoundaryCallsTest::streamOwn);
        test("15: 0 of one that is no member", BoundaryCallsTest::streamNoMember);
        test("16: no such process", () -> noSuchProcess("event", x -> p -> x.event(p, 0, 0)));
        test("16: or another what", BoundaryCallsTest::eventWhat);
        test("16: it is not kept", BoundaryCallsTest::eventKept);
    }

    /** One call of a hall, with one argument left open. */
    private interface Open {
        IntConsumer of(ViewHall x);
    }

    private record Wrong(String call, Class<?> want, Call run) { }

    // ---- all calls

    private static final int[][] WRONG_SENDS = {{-1, 0}, {LEAST, 3}, {GREATEST, 0}, {0, -1}, {0, 4}, {0, LEAST}};
    private static final int[][] WRONG_GOES =
        {{0, 0}, {61, 0}, {LEAST, 0}, {GREATEST, 16}, {1, -1}, {60, 17}, {1, LEAST}, {1, GREATEST}};
    private static final int[][] WRONG_BEGINS =
        {{1, 8}, {7, 8}, {LEAST, 8}, {GREATEST, 8}, {2, 5}, {6, 31}, {3, LEAST}, {3, GREATEST}};

    /** Calls that are refused in this hall as it stands. */
    private static List<Wrong> wrongCalls(ViewHall x) {
        List<Wrong> wrong = new ArrayList<>();
        int n = x.look(0);
        int packets = x.look(3);
        for (int[] a : WRONG_BEGINS) {
            wrong.add(new Wrong("begin", ARGUMENT, () -> x.begin(a[0], a[1])));
        }
        for (int[] a : WRONG_SENDS) {
            wrong.add(new Wrong("send", ARGUMENT, () -> x.send(a[0], a[1], 5)));
        }
        for (int[] a : WRONG_GOES) {
            wrong.add(new Wrong("go", ARGUMENT, () -> x.go(a[0], 1, a[1])));
        }
        for (int p : new int[] {LEAST, -1, n, GREATEST}) {
            addProcessCalls(wrong, x, p);
        }
        for (int k : new int[] {LEAST, -1, packets, GREATEST}) {
            wrong.add(new Wrong("deliver", INDEX, () -> x.deliver(k)));
            wrong.add(new Wrong("lose", INDEX, () -> x.lose(k)));
            wrong.add(new Wrong("packet", INDEX, () -> x.packet(k, 0)));
        }
        for (int sides : new int[] {LEAST, -1, (int) Math.pow(3, n), GREATEST}) {
            wrong.add(new Wrong("part", ARGUMENT, () -> x.part(sides)));
        }
        for (int p = 0; p < n; p++) {
            addStateCalls(wrong, x, p);
        }
        return wrong;
    }

    private static void addProcessCalls(List<Wrong> wrong, ViewHall x, int p) {
        wrong.add(new Wrong("join", ARGUMENT, () -> x.join(p)));
        wrong.add(new Wrong("leave", ARGUMENT, () -> x.leave(p)));
        wrong.add(new Wrong("crash", ARGUMENT, () -> x.crash(p)));
        wrong.add(new Wrong("about", ARGUMENT, () -> x.about(p, 0)));
        wrong.add(new Wrong("stream", ARGUMENT, () -> x.stream(0, 0, p, 0)));
        wrong.add(new Wrong("event", ARGUMENT, () -> x.event(p, 0, 0)));
    }

    private static void addStateCalls(List<Wrong> wrong, ViewHall x, int p) {
        if (x.about(p, 0) == 1) {
            wrong.add(new Wrong("join", STATE, () -> x.join(p)));
        } else {
            wrong.add(new Wrong("leave", STATE, () -> x.leave(p)));
            wrong.add(new Wrong("crash", STATE, () -> x.crash(p)));
            wrong.add(new Wrong("send", STATE, () -> x.send(p, AGREED, 2)));
        }
        int events = x.about(p, 4);
        wrong.add(new Wrong("event", INDEX, () -> x.event(p, events, 0)));
    }

    private static void refusedChangesNothing() {
        ViewHall alone = new ViewHall();
        alone.join(1);
        for (ViewHall x : new ViewHall[] {new ViewHall(), alone, busy(2), busy(3), busy(6), lacking(), proposing(4)}) {
            for (Wrong call : wrongCalls(x)) {
                refused(x, call.want, call.call, call.run);
            }
        }
    }

    /** Of two halls that are told the same one also gets wrong calls, all the time. */
    private static void refusedLeavesNoTrace() {
        ViewHall plain = new ViewHall();
        ViewHall pestered = new ViewHall();
        for (int i = 0; i < 60; i++) {
            for (Wrong call : wrongCalls(pestered)) {
                throwing(call.call, call.want, call.run);
            }
            someCall(plain, i);
            someCall(pestered, i);
        }
        dueAll("a hall that was pestered", all(pestered), all(plain));
    }

    /** The same call each time for the same i in the same state. */
    private static void someCall(ViewHall x, int i) {
        int p = i * 7 % x.look(0);
        if (x.about(p, 0) == 0) {
            x.join(p);
        } else if (i % 20 == 19) {
            x.crash(p);
        } else if (i % 3 == 0) {
            x.go(4, i, 1);
        } else if (i % 3 == 1) {
            x.send(p, i % 4, i);
        } else {
            x.tick();
        }
    }

    private static void firstTold() {
        ViewHall x = busy(3);
        due("process 2 is OUT", x.about(2, 0), 0);
        refused(x, ARGUMENT, "send by one that is OUT, wrong sort", () -> x.send(2, 4, 0));
        refused(x, ARGUMENT, "send, no process, wrong sort", () -> x.send(3, -1, 0));
        int packets = x.look(3);
        refused(x, INDEX, "packet, neither k nor what", () -> x.packet(packets, 46));
        refused(x, INDEX, "packet, neither k nor what", () -> x.packet(-1, -1));
        refused(x, ARGUMENT, "event, not kept, wrong what", () -> x.event(0, -1, 5));
        refused(x, ARGUMENT, "event, not kept, wrong what", () -> x.event(0, GREATEST, -1));
        refused(x, ARGUMENT, "event, no process, not kept", () -> x.event(3, -1, 0));
        ViewHall empty = new ViewHall();
        refused(empty, INDEX, "packet of an empty row, wrong what", () -> empty.packet(0, 46));
        refused(empty, ARGUMENT, "event of none, wrong what", () -> empty.event(0, 0, 5));
    }

    /** 512 calls of the dearest kind, and the hall still stands as its like does. */
    private static void manyCalls() {
        ViewHall x = new ViewHall();
        x.begin(6, 30);
        for (int p = 0; p < 6; p++) {
            x.join(p);
        }
        for (int call = 8; call <= 510; call++) {
            if (call % 2 == 0) {
                x.go(60, call, 1);
            } else {
                x.send(call / 2 % 6, call / 12 % 4, call);
            }
        }
        due("TIME", x.look(2), 60 * 252);
        due("MEMBERS of 5", x.about(5, 7), 63);
    }

    // ---- promises 1 and 2

    private static void newHasThree() {
        ViewHall x = new ViewHall();
        due("look(0)", x.look(0), 3);
        x.join(2);
        refused(x, ARGUMENT, "join(3)", () -> x.join(3));
        x.part(26);
        refused(x, ARGUMENT, "part(27)", () -> x.part(27));
    }

    private static void newHasPatienceEight() {
        ViewHall x = new ViewHall();
        due("look(1)", x.look(1), 8);
        x.join(0);
        x.join(1);
        x.tick();
        x.tick();
        carry(x, HELLO, 0, 1);
        for (int i = 0; i < 8; i++) {
            x.tick();
        }
        due("reached after 8 ticks", x.about(1, 11), 3);
        x.tick();
        due("reached after 9 ticks", x.about(1, 11), 2);
    }

    private static void newIsAsAtFirst() {
        asAtFirst(new ViewHall(), 3);
    }

    private static void beginProcesses() {
        for (int n = 2; n <= 6; n++) {
            ViewHall x = new ViewHall();
            x.begin(n, 8);
            due("look(0)", x.look(0), n);
            x.join(n - 1);
            int next = n;
            refused(x, ARGUMENT, "join of " + n, () -> x.join(next));
        }
        ViewHall x = busy(3);
        outside(x, ARGUMENT, "begin's processes", 2, 6, n -> x.begin(n, 8));
        refused(x, ARGUMENT, "begin(0, 8)", () -> x.begin(0, 8));
        refused(x, ARGUMENT, "begin(-3, 8)", () -> x.begin(-3, 8));
    }

    private static void beginPatience() {
        for (int patience : new int[] {6, 7, 29, 30}) {
            ViewHall x = new ViewHall();
            x.begin(2, patience);
            due("look(1)", x.look(1), patience);
        }
        ViewHall x = busy(4);
        outside(x, ARGUMENT, "begin's patience", 6, 30, patience -> x.begin(3, patience));
        refused(x, ARGUMENT, "begin(3, 0)", () -> x.begin(3, 0));
        refused(x, ARGUMENT, "begin(1, 5)", () -> x.begin(1, 5));
        refused(x, ARGUMENT, "begin(7, 31)", () -> x.begin(7, 31));
    }

    private static void beginIsAsAtFirst() {
        for (int n = 2; n <= 6; n++) {
            ViewHall x = busy(8 - n);
            x.begin(n, 9);
            asAtFirst(x, n);
        }
    }

    private static void beginLeavesNoTrace() {
        for (int n = 2; n <= 6; n++) {
            for (ViewHall used : new ViewHall[] {busy(2), busy(6), lacking()}) {
                ViewHall fresh = new ViewHall();
                used.begin(n, 6);
                fresh.begin(n, 6);
                for (int i = 0; i < 150; i++) {
                    someCall(used, i);
                    someCall(fresh, i);
                }
                dueAll("a hall of " + n + " begun after use", all(used), all(fresh));
            }
        }
    }

    // ---- promises 3 to 5

    private static void noSuchProcess(String name, Open call) {
        for (int n = 2; n <= 6; n += 2) {
            ViewHall x = busy(n);
            outside(x, ARGUMENT, name, 0, n - 1, call.of(x));
        }
        ViewHall smaller = busy(6);
        smaller.begin(3, 8);
        outside(smaller, ARGUMENT, name + " in a hall that was larger", 0, 2, call.of(smaller));
    }

    private static void joinWhenIn() {
        ViewHall x = joined(2, 8);
        refused(x, STATE, "join when just joined", () -> x.join(1));
        ViewHall y = lacking();
        refused(y, STATE, "join of one that is not OPEN", () -> y.join(0));
        refused(y, STATE, "join of one that is OPEN", () -> y.join(1));
        y.join(3);
        refused(y, STATE, "join again", () -> y.join(3));
        x.leave(0);
        x.crash(1);
        x.join(0);
        x.join(1);
        due("IN after a leave", x.about(0, 0), 1);
        due("IN after a crash", x.about(1, 0), 1);
    }

    private static void refusedWhenOut(String name, Open call) {
        ViewHall x = new ViewHall();
        refused(x, STATE, name + " ahead of any join", () -> call.of(x).accept(2));
        x.join(2);
        x.leave(2);
        refused(x, STATE, name + " after a leave", () -> call.of(x).accept(2));
        x.join(2);
        x.crash(2);
        refused(x, STATE, name + " after a crash", () -> call.of(x).accept(2));
        x.join(2);
        call.of(x).accept(2);
        ViewHall y = busy(3);
        y.begin(3, 8);
        refused(y, STATE, name + " after a begin", () -> call.of(y).accept(0));
    }

    // ---- promise 6

    private static void sendSorts() {
        ViewHall x = formed(2, 8);
        for (int sort = 0; sort <= 3; sort++) {
            due("send of sort " + sort, x.send(1, sort, 0), sort + 1);
        }
        outside(x, ARGUMENT, "send's sort", 0, 3, sort -> x.send(0, sort, 0));
    }

    private static void sendIsMinusOne(ViewHall x, int p, int mode) {
        due("mode of " + p, x.about(p, 10), mode);
        unchanged(x, "send in mode " + mode, () -> due("send", x.send(p, FIFO, 1), -1));
        refused(x, ARGUMENT, "a wrong sort in mode " + mode, () -> x.send(p, 4, 1));
    }

    private static void sendWhenPromised() {
        ViewHall x = lacking();
        sendIsMinusOne(x, 0, 1);
        due("send by one that is OPEN", x.send(1, FIFO, 1), 1);
        carry(x, PROPOSE, 0, 2);
        sendIsMinusOne(x, 2, 1);
    }

    private static void sendWhenCut() {
        ViewHall x = lacking();
        replyAll(x);
        sendIsMinusOne(x, 0, 2);
        carry(x, CUT, 0, 2);
        sendIsMinusOne(x, 2, 2);
    }

    private static void sendWhenWhole() {
        ViewHall x = lacking();
        replyAll(x);
        carry(x, CUT, 0, 1);
        sendIsMinusOne(x, 1, 3);
        carry(x, FILL, 1, 0);
        carry(x, FILL, 1, 0);
        sendIsMinusOne(x, 0, 3);
    }

    private static void sendNotOpenAndFull() {
        ViewHall x = formed(3, 30);
        for (int i = 1; i <= 8; i++) {
            x.send(0, FIFO, i);
        }
        due("send while OPEN", x.send(0, FIFO, 9), -2);
        leaveLast(x);
        sendIsMinusOne(x, 0, 1);
    }

    private static void sendEight() {
        ViewHall x = formed(3, 30);
        for (int i = 1; i <= 8; i++) {
            due("send of the " + i + "th", x.send(1, FIFO, i), i);
        }
        unchanged(x, "send of the 9th", () -> due("send of the 9th", x.send(1, SAFE, 9), -2));
        due("send of another", x.send(0, FIFO, 1), 1);
        // One member has passed the first: the other holds STABLE back.
        carry(x, DATA, 1, 0);
        loseAll(x);
        hellos(x);
        due("STABLE", x.about(1, 16), 0);
        unchanged(x, "send of the 9th", () -> due("send of the 9th", x.send(1, FIFO, 9), -2));
        tickTo(x, 4);
        carry(x, DATA, 1, 2);
        loseAll(x);
        hellos(x);
        due("STABLE", x.about(1, 16), 1);
        due("send of the 9th", x.send(1, FIFO, 9), 9);
        unchanged(x, "send of the 10th", () -> due("send of the 10th", x.send(1, FIFO, 10), -2));
    }

    private static void sendMoreThanEight() {
        ViewHall x = formed(2, 30);
        for (int i = 1; i <= 8; i++) {
            x.send(0, FIFO, i);
        }
        x.send(1, AGREED, 0);
        carry(x, DATA, 1, 0);
        due("GOT", x.stream(0, 0, 0, 0), 9);
        unchanged(x, "send at 9", () -> due("send at 9", x.send(0, FIFO, 9), -2));
    }

    private static void sendNumbers() {
        ViewHall x = formed(2, 30);
        due("send", x.send(0, FIFO, 0), 1);
        due("send", x.send(0, AGREED, 0), 2);
        due("send behind its own ORDER", x.send(0, FIFO, 0), 4);
        due("send of another", x.send(1, SAFE, 0), 1);
        // Numbers begin anew with each view.
        x.crash(1);
        x.go(40, 1, 0);
        due("MEMBERS", x.about(0, 7), 1);
        due("send in a new view", x.send(0, FIFO, 0), 1);
    }

    private static void sendValues() {
        ViewHall x = formed(2, 30);
        for (int value : new int[] {LEAST, -1, 0, GREATEST}) {
            x.send(1, FIFO, value);
            due("value in the packet", x.packet(0, 11), value);
            x.deliver(0);
            due("value in the event", x.event(0, x.about(0, 4) - 1, 4), value);
            due("value in its own event", x.event(1, x.about(1, 4) - 1, 4), value);
        }
    }

    // ---- promise 7

    private static void partBelowZero() {
        ViewHall x = busy(3);
        x.part(14);
        refused(x, ARGUMENT, "part(-1)", () -> x.part(-1));
        refused(x, ARGUMENT, "part(-27)", () -> x.part(-27));
        refused(x, ARGUMENT, "part of the least", () -> x.part(LEAST));
        x.part(0);
        dueAll("sides", sides(x), 0, 0, 0);
    }

    private static void partLeft() {
        int[] greatest = {8, 26, 80, 242, 728};
        for (int n = 2; n <= 6; n++) {
            ViewHall x = busy(n);
            int most = greatest[n - 2];
            refused(x, ARGUMENT, "part of " + (most + 1), () -> x.part(most + 1));
            refused(x, ARGUMENT, "part of the greatest", () -> x.part(GREATEST));
            x.part(most);
            for (int side : sides(x)) {
                due("side", side, 2);
            }
        }
    }

    private static void partDigits() {
        ViewHall x = new ViewHall();
        x.begin(6, 8);
        x.part(1);
        dueAll("part(1)", sides(x), 1, 0, 0, 0, 0, 0);
        x.part(2);
        dueAll("part(2)", sides(x), 2, 0, 0, 0, 0, 0);
        x.part(3);
        dueAll("part(3)", sides(x), 0, 1, 0, 0, 0, 0);
        x.part(243);
        dueAll("part(243)", sides(x), 0, 0, 0, 0, 0, 1);
        x.part(2 + 3 + 2 * 27 + 81);
        dueAll("part(140)", sides(x), 2, 1, 0, 2, 1, 0);
    }

    private static int[] sides(ViewHall x) {
        int[] sides = new int[x.look(0)];
        for (int p = 0; p < sides.length; p++) {
            sides[p] = x.about(p, 1);
        }
        return sides;
    }

    // ---- promises 8 to 10

    private static void tickCounts() {
        ViewHall x = joined(6, 30);
        for (int i = 1; i <= 44; i++) {
            due("tick " + i, x.tick(), Math.min(600, i / 2 * 30));
            due("look(3)", x.look(3), Math.min(600, i / 2 * 30));
        }
    }

    private static void tickOfNobody() {
        ViewHall x = new ViewHall();
        for (int i = 1; i <= 8; i++) {
            due("tick", x.tick(), 0);
            due("TIME", x.look(2), i);
        }
    }

    private static void noSuchPacket(String name, Open call) {
        ViewHall empty = new ViewHall();
        outside(empty, INDEX, name + " of an empty row", 0, -1, call.of(empty));
        refused(empty, INDEX, name + " of an empty row", () -> call.of(empty).accept(0));
        ViewHall x = busy(3);
        outside(x, INDEX, name, 0, x.look(3) - 1, call.of(x));
        call.of(x).accept(x.look(3) - 1);
        call.of(x).accept(0);
        ViewHall full = filling(42);
        outside(full, INDEX, name + " of a full row", 0, 599, call.of(full));
        call.of(full).accept(599);
    }

    private static void deliverEnds() {
        ViewHall x = joined(3, 30);
        x.tick();
        due("packets", x.tick(), 6);
        x.deliver(5);
        due("2's to 1, the youngest", x.about(1, 11), 6);
        x.deliver(0);
        due("0's to 1, the oldest", x.about(1, 11), 7);
        due("packets", x.look(3), 4);
        x.deliver(1);
        due("1's to 0", x.about(0, 11), 3);
        due("the oldest is 0's to 2", x.packet(0, 2), 2);
        due("then 1's to 2", x.packet(1, 1), 1);
        due("then 2's to 0", x.packet(2, 1), 2);
    }

    private static void loseEnds() {
        ViewHall x = saidHello(3, 30);
        int[] one = all(x);
        x.lose(5);
        due("packets", x.look(3), 5);
        due("the youngest is 2's to 0", x.packet(4, 2), 0);
        x.lose(0);
        due("packets", x.look(3), 4);
        due("the oldest is 0's to 2", x.packet(0, 2), 2);
        due("sent", x.look(4), 6);
        loseAll(x);
        // Nothing but the row is another: its processes have not heard of it.
        int[] other = all(x);
        one[3] = 0;
        dueAll("all but the row", other, Arrays.copyOf(one, other.length));
    }

    // ---- promise 11

    private static void goTimes() {
        ViewHall x = busy(3);
        int before = x.look(2);
        x.go(1, 1, 0);
        due("TIME after 1", x.look(2), before + 1);
        x.go(60, 1, 0);
        due("TIME after 60", x.look(2), before + 61);
        outside(x, ARGUMENT, "go's times", 1, 60, times -> x.go(times, 1, 0));
        refused(x, ARGUMENT, "go(-60, 1, 0)", () -> x.go(-60, 1, 0));
    }

    private static void goLoss() {
        ViewHall x = joined(3, 30);
        due("go with loss 16", x.go(4, 1, 16), 0);
        due("sent", x.look(4), 12);
        due("reached", x.about(0, 11), 1);
        x.go(20, 1, 0);
        due("reached", x.about(0, 11), 7);
        outside(x, ARGUMENT, "go's loss", 0, 16, loss -> x.go(1, 1, loss));
        refused(x, ARGUMENT, "go(0, 1, 17)", () -> x.go(0, 1, 17));
    }

    /** One HELLO of 0 for 1 is under way since TIME 2. */
    private static ViewHall oneUnderWay() {
        ViewHall x = saidHello(2, 30);
        x.lose(1);
        due("for", x.packet(0, 2), 1);
        return x;
    }

    /** A seed whose next x has this rest by 16, and this one of x / 16 by 4. */
    private static int seedOf(int low, int high) {
        for (int seed = 0; seed < 100000; seed++) {
            int x = seed * 1103515245 + 12345 >>> 16;
            if (x % 16 == low && x / 16 % 4 == high) {
                return seed;
            }
        }
        throw new IllegalStateException("no seed");
    }

    private static void goBelowLoss() {
        for (int loss = 1; loss <= 15; loss++) {
            ViewHall x = oneUnderWay();
            due("go, x modulo 16 one below loss", x.go(1, seedOf(loss - 1, 0), loss), 0);
            due("it is lost", x.about(1, 11), 2);
            ViewHall y = oneUnderWay();
            due("go, x modulo 16 is loss", y.go(1, seedOf(loss, 0), loss), 0);
            due("it is delivered", y.about(1, 11), 3);
        }
        ViewHall none = oneUnderWay();
        none.go(1, seedOf(0, 0), 0);
        due("none is lost by loss 0", none.about(1, 11), 3);
        ViewHall all = oneUnderWay();
        all.go(1, seedOf(15, 0), 16);
        due("all are lost by loss 16", all.about(1, 11), 2);
        // Lost, even when it would have stayed.
        ViewHall young = oneUnderWay();
        due("go", young.go(1, seedOf(3, 1), 4), 0);
    }

    private static void goStays() {
        for (int high = 0; high < 4; high++) {
            ViewHall x = oneUnderWay();
            due("go, x / 16 modulo 4 is " + high, x.go(1, seedOf(15, high), 0), high == 0 ? 0 : 1);
            due("reached", x.about(1, 11), high == 0 ? 3 : 2);
        }
    }

    private static void goThreeTicks() {
        // Sent in this very tick.
        ViewHall now = joined(2, 30);
        now.tick();
        now.crash(0);
        due("go at once", now.go(1, seedOf(15, 1), 0), 1);
        for (int ago = 1; ago <= 4; ago++) {
            ViewHall x = oneUnderWay();
            x.crash(0);
            for (int i = 1; i < ago; i++) {
                x.tick();
            }
            // Of those sent since then none may take the first draw: it is the oldest one's.
            x.go(1, seedOf(15, 3), 0);
            due("ticks", x.look(2), 2 + ago);
            due("delivered after " + ago, x.about(1, 11), ago < 3 ? 2 : 3);
        }
    }

    /** At TIME 4 two PROPOSEs and two HELLOs come; what they bring stays, though its draw would deliver it. */
    private static void goEachOnce() {
        ViewHall x = proposing(2);
        due("go", x.go(1, seedThatDelivers(8), 0), 2);
        due("REPLYs", count(x, REPLY), 2);
        due("sent in this tick", x.packet(0, 3), 4);
        due("who has replied to 0", x.about(0, 14), 1);
    }

    /** So many draws in a row deliver. */
    private static int seedThatDelivers(int draws) {
        for (int first = 0; first < 10000000; first++) {
            int seed = first;
            int good = 0;
            while (good < draws) {
                seed = seed * 1103515245 + 12345;
                if ((seed >>> 16) / 16 % 4 != 0) {
                    break;
                }
                good++;
            }
            if (good == draws) {
                return first;
            }
        }
        throw new IllegalStateException("no seed");
    }

    /** go by single calls: a tick, then each packet that is under way then, and none that it brings. */
    private static void goBySteps(ViewHall x, int times, int seed, int loss) {
        int drawn = seed;
        for (int i = 0; i < times; i++) {
            int left = x.tick();
            int k = 0;
            for (; left > 0; left--) {
                drawn = (int) (drawn * 1103515245L + 12345L);
                int high = (int) ((drawn & 0xffffffffL) / 65536);
                if (high % 16 < loss) {
                    x.lose(k);
                } else if (x.look(2) - x.packet(k, 3) < 3 && high / 16 % 4 != 0) {
                    k++;
                } else {
                    x.deliver(k);
                }
            }
        }
    }

    private static void goSeeds() {
        for (int seed : new int[] {LEAST, LEAST + 1, -65536, -1, 0, 65535, 1 << 30, GREATEST}) {
            ViewHall x = joined(3, 8);
            ViewHall y = joined(3, 8);
            x.go(20, seed, 2);
            goBySteps(y, 20, seed, 2);
            dueAll("go with seed " + seed, all(x), all(y));
        }
    }

    // ---- promises 12 and 13

    private static void lookWhat() {
        ViewHall x = busy(3);
        outside(x, ARGUMENT, "look", 0, 4, x::look);
        unchanged(x, "look", () -> {
            for (int what = 0; what <= 4; what++) {
                x.look(what);
            }
        });
    }

    private static void packetWhat() {
        ViewHall x = busy(3);
        outside(x, ARGUMENT, "packet's what", 0, 45, what -> x.packet(0, what));
        int last = x.look(3) - 1;
        outside(x, ARGUMENT, "packet's what", 0, 45, what -> x.packet(last, what));
        due("packet(0, 0) is a kind", x.packet(0, 0) >= HELLO && x.packet(0, 0) <= BYE ? 1 : 0, 1);
        ViewHall y = joined(2, 6);
        y.tick();
        y.tick();
        due("packet(0, 45) of a hall of two", y.packet(0, 45), 0);
    }

    private static void packetBehindEnd() {
        // Six processes first, so that whatever room a packet takes has held longer bodies.
        ViewHall x = formed(6, 6);
        x.crash(0);
        x.go(20, 3, 0);
        loseAll(x);
        x.begin(2, 6);
        x.join(0);
        x.tick();
        x.tick();
        dueAll("a HELLO's body", body(x, 0, 37), new int[37]);
        ViewHall y = formed(2, 6);
        y.send(0, FIFO, -5);
        dueAll("a DATA's body", body(y, 0, 37), Arrays.copyOf(new int[] {1, FIFO, -5, 0, 0}, 37));
        y.leave(0);
        dueAll("a BYE's body", body(y, 1, 37), new int[37]);
        ViewHall z = proposing(6);
        dueAll("a PROPOSE's body", body(z, 0, 37), Arrays.copyOf(new int[] {63}, 37));
    }

    private static void packetLongest() {
        ViewHall x = formed(6, 30);
        x.send(5, FIFO, 1);
        carry(x, DATA, 5, 4);
        x.crash(0);
        for (int i = 0; i < 40 && count(x, PROPOSE) == 0; i++) {
            hellos(x);
            x.tick();
        }
        for (int p = 2; p <= 5; p++) {
            carry(x, PROPOSE, 1, p);
            carry(x, REPLY, p, 1);
        }
        int k = find(x, CUT, 1, 5);
        due("T", x.packet(k, 9), 62);
        due("the last number: GOT of 5 of its own", x.packet(k, 45), 1);
        due("the last of 4", x.packet(k, 39), 1);
        due("the last of 3", x.packet(k, 33), 0);
    }

    // ---- promises 14 to 16

    private static void aboutWhat() {
        ViewHall x = busy(3);
        outside(x, ARGUMENT, "about's what", 0, 23, what -> x.about(0, what));
        due("process 2 is OUT", x.about(2, 0), 0);
        outside(x, ARGUMENT, "about's what of one that is OUT", 0, 23, what -> x.about(2, what));
        ViewHall y = new ViewHall();
        y.join(1);
        y.send(1, AGREED, 7 << 4 | 3 << 2);
        due("about(1, 0)", y.about(1, 0), 1);
        due("about(1, 23)", y.about(1, 23), 7);
    }

    private static void aboutOut() {
        ViewHall x = formed(2, 8);
        x.send(1, AGREED, 2);
        x.go(8, 1, 0);
        x.send(1, SAFE, 16 | 3 << 2);
        x.part(3);
        int counter = x.about(1, 2);
        int serial = x.about(1, 3);
        int events = x.about(1, 4);
        due("OWNER when IN", x.about(1, 19), 1);
        x.crash(1);
        dueAll("about(1, 0 .. 4)", new int[] {x.about(1, 0), x.about(1, 1), x.about(1, 2), x.about(1, 3), x.about(1, 4)},
            0, 1, counter, serial, events + 1);
        for (int what = 5; what <= 23; what++) {
            due("about(1, " + what + ")", x.about(1, what), 0);
        }
    }

    private static void aboutNoAttempt() {
        ViewHall x = lacking();
        dueAll("with one", attempt(x, 0), 1, 7, 1, 0);
        dueAll("without one", attempt(x, 1), 0, 0, 0, 0);
        replyAll(x);
        dueAll("in phase 2", attempt(x, 0), 2, 7, 7, 0);
        carry(x, CUT, 0, 1);
        carry(x, CUT, 0, 2);
        carry(x, READY, 1, 0);
        dueAll("one is ready", attempt(x, 0), 2, 7, 7, 2);
        carry(x, FILL, 1, 0);
        carry(x, FILL, 1, 0);
        dueAll("two are ready", attempt(x, 0), 2, 7, 7, 3);
        carry(x, FILL, 1, 2);
        carry(x, FILL, 1, 2);
        carry(x, READY, 2, 0);
        dueAll("it is over", attempt(x, 0), 0, 0, 0, 0);
        // Given up, for 1 hears 0, which is less.
        ViewHall y = saidHello(3, 30);
        carry(y, HELLO, 2, 1);
        y.tick();
        dueAll("with one", attempt(y, 1), 1, 6, 2, 0);
        carry(y, HELLO, 0, 1);
        y.tick();
        dueAll("given up", attempt(y, 1), 0, 0, 0, 0);
    }

    private static int[] attempt(ViewHall x, int p) {
        return new int[] {x.about(p, 12), x.about(p, 13), x.about(p, 14), x.about(p, 15)};
    }

    private static void streamWhat() {
        ViewHall x = busy(3);
        outside(x, ARGUMENT, "stream's what", 0, 3, what -> x.stream(0, what, 0, 0));
        outside(x, ARGUMENT, "stream's what of one that is OUT", 0, 3, what -> x.stream(2, what, 0, 0));
        outside(x, ARGUMENT, "u of one that is OUT", 0, 2, u -> x.stream(2, 0, u, 0));
        outside(x, ARGUMENT, "q of one that is OUT", 0, 2, q -> x.stream(2, 3, 0, q));
    }

    private static void streamOut() {
        ViewHall x = formed(2, 8);
        x.send(0, FIFO, 1);
        carry(x, DATA, 0, 1);
        hellos(x);
        for (int what = 0; what < 4; what++) {
            due("stream(1, " + what + ", 0, 0)", x.stream(1, what, 0, 0), 1);
        }
        x.crash(1);
        for (int what = 0; what < 4; what++) {
            due("stream(1, " + what + ", 0, 0) when OUT", x.stream(1, what, 0, 0), 0);
            due("stream(1, " + what + ", 0, 1) when OUT", x.stream(1, what, 0, 1), 0);
        }
        x.join(1);
        for (int what = 0; what < 4; what++) {
            due("stream(1, " + what + ", 0, 0) when IN anew", x.stream(1, what, 0, 0), 0);
        }
    }

    private static void streamOwn() {
        ViewHall x = formed(2, 8);
        x.send(1, FIFO, 1);
        x.send(1, AGREED, 2);
        due("GOT", x.stream(1, 0, 1, 0), 2);
        due("DONE", x.stream(1, 1, 1, 0), 1);
        due("its own QDONE", x.stream(1, 2, 1, 1), 1);
        due("its own QGOT", x.stream(1, 3, 1, 1), 2);
        due("QGOT of the other", x.stream(1, 3, 1, 0), 0);
        due("q does not count for GOT", x.stream(1, 0, 1, 1), 2);
    }

    private static void streamNoMember() {
        ViewHall x = formed(3, 8);
        x.send(0, FIFO, 1);
        carry(x, DATA, 0, 2);
        hellos(x);
        due("QGOT of a member", x.stream(0, 3, 0, 2), 1);
        x.part(9);
        x.go(20, 1, 0);
        due("MEMBERS", x.about(0, 7), 3);
        x.send(0, FIFO, 1);
        x.part(0);
        do {
            x.tick();
        } while (find(x, HELLO, 2, 0) < 0);
        carryLast(x, HELLO, 2, 0);
        due("MEMBERS", x.about(0, 7), 3);
        for (int u = 0; u < 3; u++) {
            due("QDONE of no member", x.stream(0, 2, u, 2), 0);
            due("QGOT of no member", x.stream(0, 3, u, 2), 0);
        }
    }

    private static void eventWhat() {
        ViewHall x = busy(3);
        outside(x, ARGUMENT, "event's what", 0, 4, what -> x.event(0, 0, what));
        ViewHall y = new ViewHall();
        y.join(2);
        dueAll("an event", event(y, 2, 0), 1, 1, 2, 4, 0);
    }

    private static void eventKept() {
        ViewHall x = new ViewHall();
        refused(x, INDEX, "event 0 of none", () -> x.event(0, 0, 0));
        outside(x, INDEX, "event of none", 0, -1, k -> x.event(0, k, 0));
        for (int i = 0; i < 32; i++) {
            x.join(0);
            x.crash(0);
        }
        due("events", x.about(0, 4), 64);
        outside(x, INDEX, "event of 64", 0, 63, k -> x.event(0, k, 0));
        dueAll("event 0 of 64", event(x, 0, 0), 1, 1, 0, 1, 0);
        dueAll("event 63 of 64", event(x, 0, 63), 3, 0, 0, 0, 0);
        x.join(0);
        outside(x, INDEX, "event of 65", 1, 64, k -> x.event(0, k, 0));
        dueAll("event 1 of 65", event(x, 0, 1), 3, 0, 0, 0, 0);
        dueAll("event 64 of 65", event(x, 0, 64), 1, 33, 0, 1, 0);
        for (int i = 0; i < 65; i++) {
            x.send(0, FIFO, i);
        }
        due("events", x.about(0, 4), 130);
        outside(x, INDEX, "event of 130", 66, 129, k -> x.event(0, k, 0));
        dueAll("event 66 of 130", event(x, 0, 66), 2, 0, 2, FIFO, 1);
        dueAll("event 129 of 130", event(x, 0, 129), 2, 0, 65, FIFO, 64);
        // Another's are its own.
        refused(x, INDEX, "event 0 of another", () -> x.event(1, 0, 0));
        x.begin(3, 8);
        refused(x, INDEX, "event 0 after a begin", () -> x.event(0, 0, 0));
        refused(x, INDEX, "event 129 after a begin", () -> x.event(0, 129, 0));
    }
}
