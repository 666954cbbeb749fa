/** The terms 1, 2 and 5, the hall, its views and its events: for each sentence that names an edge a test of its own. */
public final class BoundaryHallTest extends Checks {
    public static void main(String[] args) {
        processes();
        packets();
        delivering();
        views();
        events();
        finish();
    }

    private static void processes() {
        test("each OUT (at first), SIDE 0 at first, TIME from 0 on", BoundaryHallTest::atFirst);
        test("A SET is 2 to the power of each one in it", BoundaryHallTest::sets);
        test("of two IDs the one with the less number is less", BoundaryHallTest::idsByNumber);
        test("of the same number that with the less process", BoundaryHallTest::idsByProcess);
        test("A process keeps for ever its COUNTER and its SERIAL", BoundaryHallTest::keptForEver);
        test("All else only while it is IN, and anew with each join", BoundaryHallTest::anewWithJoin);
        test("REACHES itself, and each one heard not more than PATIENCE ticks ago", BoundaryHallTest::patience);
    }

    private static void packets() {
        test("kinds 0 to 8", BoundaryHallTest::kinds);
        test("its sender's SERIAL (with it)", BoundaryHallTest::serialWithIt);
        test("the TIME, VIEW and PROMISE as it was sent", BoundaryHallTest::asItWasSent);
        test("in a row, the oldest first", BoundaryHallTest::oldestFirst);
        test("600 at most", BoundaryHallTest::sixHundred);
        test("one more is lost as it is sent (its SERIAL counts)", BoundaryHallTest::oneMoreIsLost);
        test("To DELIVER a packet it goes from the row", BoundaryHallTest::goesFromTheRow);
    }

    private static void delivering() {
        test("lost if its two processes are on different sides", BoundaryHallTest::differentSides);
        test("or the one that it is for is OUT", BoundaryHallTest::receiverOut);
        test("who sent it may be OUT", BoundaryHallTest::senderOut);
        test("HEARS its sender, whatever the SERIAL", BoundaryHallTest::heardByElder);
        test("by a BYE: not at all any more", BoundaryHallTest::byeUnheard);
        test("till the next packet of s, be it an elder one", BoundaryHallTest::byeThenElder);
        test("KNOWN if no packet with a greater SERIAL came", BoundaryHallTest::knownByGreater);
        test("KNOWN since r joined", BoundaryHallTest::knownSinceJoin);
        test("COUNTER becomes the PROMISE's number, if that is greater", BoundaryHallTest::counterGrows);
    }

    private static void views() {
        test("JOIN: COUNTER grows by 1", BoundaryHallTest::joinAnew);
        test("LEAVE: BYE to all other members", BoundaryHallTest::leaveSaysBye);
        test("LEAVE: BYE of one that is alone", BoundaryHallTest::leaveAlone);
        test("LEAVE: BYE of one that is not OPEN", BoundaryHallTest::leaveNotOpen);
        test("CRASH: it is OUT", BoundaryHallTest::crashSaysNothing);
        test("PROMISE not below the VIEW, just in MODE 0 it is VIEW; the HEAD the least member", BoundaryHallTest::always);
    }

    private static void events() {
        test("EVENTS numbered from 0 on over its joins", BoundaryHallTest::eventsOverJoins);
        test("the latest 64 are kept", BoundaryHallTest::latestEvents);
        test("1 a view, at each join and installing", BoundaryHallTest::viewEvents);
        test("2 a delivery", BoundaryHallTest::deliveryEvents);
        test("3 OUT (0, 0, 0, 0)", BoundaryHallTest::outEvents);
    }

    // ---- processes

    private static void atFirst() {
        for (int n = 2; n <= 6; n++) {
            ViewHall x = new ViewHall();
            x.begin(n, 6);
            due("TIME", x.look(2), 0);
            for (int p = 0; p < n; p++) {
                due("IN", x.about(p, 0), 0);
                due("SIDE", x.about(p, 1), 0);
            }
            x.tick();
            due("TIME", x.look(2), 1);
        }
    }

    private static void sets() {
        ViewHall x = joined(6, 8);
        for (int p = 0; p < 6; p++) {
            due("MEMBERS of " + p, x.about(p, 7), 1 << p);
            due("reached by " + p, x.about(p, 11), 1 << p);
        }
        x.tick();
        x.tick();
        carry(x, HELLO, 5, 0);
        carry(x, HELLO, 3, 0);
        due("0, 3 and 5", x.about(0, 11), 1 + 8 + 32);
        ViewHall y = formed(6, 8);
        due("all six", y.about(5, 7), 63);
        due("all six reached", y.about(5, 11), 63);
    }

    /** 0 proposes (2, 0) to 2, and 1 proposes (2, 1) to 2; TIME is 3. */
    private static ViewHall twoProposals() {
        ViewHall x = saidHello(3, 30);
        carry(x, HELLO, 2, 0);
        carry(x, HELLO, 2, 1);
        loseAll(x);
        x.tick();
        due("PROPOSEs", count(x, PROPOSE), 2);
        return x;
    }

    private static void idsByNumber() {
        // (2, 1) stands; (3, 0) is above it, though its process is less.
        ViewHall x = twoProposals();
        carry(x, PROPOSE, 1, 2);
        promise(x, 2, 2, 1);
        carry(x, REPLY, 2, 1);
        tickTo(x, 2);
        carry(x, HELLO, 2, 0);
        x.tick();
        promise(x, 0, 3, 0);
        carryLast(x, PROPOSE, 0, 2);
        promise(x, 2, 3, 0);
        due("REPLY", count(x, REPLY), 1);
        // (2, 1) again is not above (3, 0).
        ViewHall y = twoProposals();
        int elder = y.packet(find(y, PROPOSE, 1, 2), 4);
        nextHellos(y);
        carry(y, HELLO, 1, 0);
        y.tick();
        promise(y, 0, 3, 0);
        carryLast(y, PROPOSE, 0, 2);
        promise(y, 2, 3, 0);
        due("SERIAL of the elder PROPOSE", y.packet(find(y, PROPOSE, 1, 2), 4), elder);
        int sent = y.look(4);
        carry(y, PROPOSE, 1, 2);
        promise(y, 2, 3, 0);
        due("no REPLY to it", y.look(4), sent);
    }

    /** Ticks to the next even TIME, at which all say HELLO. */
    private static void nextHellos(ViewHall x) {
        do {
            x.tick();
        } while (x.look(2) % 2 != 0);
    }

    private static void idsByProcess() {
        ViewHall x = twoProposals();
        carry(x, PROPOSE, 0, 2);
        promise(x, 2, 2, 0);
        carry(x, PROPOSE, 1, 2);
        promise(x, 2, 2, 1);
        due("REPLYs", count(x, REPLY), 2);
        ViewHall y = twoProposals();
        carry(y, PROPOSE, 1, 2);
        promise(y, 2, 2, 1);
        carry(y, PROPOSE, 0, 2);
        promise(y, 2, 2, 1);
        due("REPLYs", count(y, REPLY), 1);
    }

    private static void keptForEver() {
        ViewHall x = formed(2, 8);
        int counter = x.about(1, 2);
        int serial = x.about(1, 3);
        x.leave(1);
        due("COUNTER when OUT", x.about(1, 2), counter);
        due("SERIAL when OUT, with the BYE", x.about(1, 3), serial + 1);
        x.join(1);
        due("COUNTER anew", x.about(1, 2), counter + 1);
        due("SERIAL anew", x.about(1, 3), serial + 1);
        x.crash(1);
        x.join(1);
        due("COUNTER anew", x.about(1, 2), counter + 2);
        due("SERIAL anew", x.about(1, 3), serial + 1);
    }

    private static void anewWithJoin() {
        ViewHall x = lacking();
        x.send(1, AGREED, 2);
        replyAll(x);
        for (int p = 0; p <= 1; p++) {
            x.crash(p);
            int counter = x.about(p, 2);
            x.join(p);
            int[] want = {counter + 1, p, 1 << p, counter + 1, p, 0, 1 << p, 0, 0, 0, 0, 0, 0, 0, -1, 0, 0, 0, 0};
            for (int what = 5; what < 24; what++) {
                due("about(" + p + ", " + what + ")", x.about(p, what), want[what - 5]);
            }
            for (int i = 0; i < 64; i++) {
                due("stream", x.stream(p, i / 16, i / 4 % 4, i % 4), 0);
            }
        }
    }

    private static void patience() {
        for (int patience : new int[] {6, 7, 30}) {
            ViewHall x = joined(2, patience);
            x.tick();
            x.tick();
            due("itself", x.about(1, 11), 2);
            carry(x, HELLO, 0, 1);
            for (int i = 0; i <= patience; i++) {
                due("reached " + i + " ticks ago", x.about(1, 11), 3);
                x.tick();
            }
            due("reached one more tick ago", x.about(1, 11), 2);
            carry(x, HELLO, 0, 1);
            due("reached again", x.about(1, 11), 3);
        }
    }

    // ---- packets

    private static void kinds() {
        ViewHall x = lacking();
        int[] seen = new int[9];
        carry(x, PROPOSE, 0, 1);
        note(x, seen);
        replyAll(x);
        note(x, seen);
        carry(x, CUT, 0, 1);
        carry(x, CUT, 0, 2);
        note(x, seen);
        carry(x, FILL, 1, 0);
        carry(x, FILL, 1, 0);
        carry(x, FILL, 1, 2);
        carry(x, FILL, 1, 2);
        carry(x, READY, 1, 0);
        carry(x, READY, 2, 0);
        note(x, seen);
        carry(x, INSTALL, 0, 1);
        x.send(1, FIFO, 0);
        nextHellos(x);
        x.leave(1);
        note(x, seen);
        dueAll("kinds seen", seen, 1, 1, 1, 1, 1, 1, 1, 1, 1);
    }

    private static void note(ViewHall x, int[] seen) {
        for (int k = 0; k < x.look(3); k++) {
            int kind = x.packet(k, 0);
            due("kind is 0 .. 8", kind >= 0 && kind <= 8 ? 1 : 0, 1);
            seen[kind] = 1;
        }
    }

    private static void serialWithIt() {
        ViewHall x = joined(3, 8);
        x.tick();
        x.tick();
        for (int k = 0; k < 6; k++) {
            due("SERIAL", x.packet(k, 4), k % 2 + 1);
        }
        due("SERIAL of 2", x.about(2, 3), 2);
        due("sent", x.look(4), 6);
    }

    private static void asItWasSent() {
        ViewHall x = proposing(2);
        x.tick();
        int k = find(x, HELLO, 0, 1);
        int serial = x.packet(k, 4);
        int[] want = {HELLO, 0, 1, 4, serial, 1, 0, 2, 0};
        dueAll("a HELLO of MODE 1", head(x, k), want);
        carry(x, PROPOSE, 0, 1);
        dueAll("a REPLY", head(x, find(x, REPLY, 1, 0)), REPLY, 1, 0, 4, x.about(1, 3), 1, 1, 2, 0);
        carry(x, REPLY, 1, 0);
        carry(x, CUT, 0, 1);
        carry(x, READY, 1, 0);
        due("VIEW of 0", x.about(0, 5), 2);
        x.tick();
        dueAll("the HELLO later", head(x, find(x, HELLO, 0, 1)), want);
    }

    private static void oldestFirst() {
        ViewHall x = joined(3, 8);
        for (int i = 0; i < 6; i++) {
            x.tick();
        }
        for (int k = 0; k < x.look(3); k++) {
            due("TIME of packet " + k, x.packet(k, 3), k / 6 * 2 + 2);
            due("sender of packet " + k, x.packet(k, 1), k / 2 % 3);
        }
        x.lose(7);
        due("the next moves up", x.packet(7, 1), 1);
        x.deliver(0);
        due("the next moves up", x.packet(0, 2), 2);
        due("the youngest stays so", x.packet(15, 3), 6);
    }

    private static void sixHundred() {
        ViewHall x = filling(39);
        due("packets", x.look(3), 570);
        x.lose(0);
        due("tick", x.tick(), 599);
        due("the 599th", x.packet(598, 4), 100);
        ViewHall y = filling(40);
        due("packets", y.look(3), 600);
        due("the 600th is there", y.packet(599, 2), 4);
        due("its sender", y.packet(599, 1), 5);
        due("its SERIAL", y.packet(599, 4), 100);
    }

    private static void oneMoreIsLost() {
        ViewHall x = filling(41);
        x.lose(3);
        due("packets", x.look(3), 599);
        due("tick", x.tick(), 600);
        due("sent", x.look(4), 630);
        for (int p = 0; p < 6; p++) {
            due("SERIAL of " + p, x.about(p, 3), 105);
        }
        // One found room: the first that was sent.
        due("the last's sender", x.packet(599, 1), 0);
        due("the last's SERIAL", x.packet(599, 4), 101);
        x.lose(0);
        x.lose(0);
        x.tick();
        x.tick();
        due("packets", x.look(3), 600);
        due("two found room", x.packet(597, 4), 101);
        due("the first of them", x.packet(598, 4), 106);
        due("the second of them", x.packet(599, 4), 107);
    }

    private static void goesFromTheRow() {
        ViewHall x = filling(38);
        carry(x, HELLO, 5, 0);
        x.tick();
        due("0 proposes", x.about(0, 13), 33);
        x.tick();
        due("tick", x.tick(), 600);
        due("a full row", x.look(3), 600);
        carry(x, PROPOSE, 0, 5);
        due("its REPLY has the room", x.look(3), 600);
        dueAll("REPLY", head(x, 599), REPLY, 5, 0, 41, x.about(5, 3), 1, 5, 2, 0);
    }

    // ---- delivering

    private static void differentSides() {
        ViewHall x = joined(3, 30);
        x.crash(0);
        x.join(0);
        x.tick();
        x.tick();
        // Sides 0, 1 and 2: what was sent before they parted is lost, too.
        x.part(3 + 2 * 9);
        while (x.look(3) > 0) {
            x.deliver(0);
        }
        for (int p = 0; p < 3; p++) {
            due("reached by " + p, x.about(p, 11), 1 << p);
            due("COUNTER of " + p, x.about(p, 2), p == 0 ? 2 : 1);
        }
        x.tick();
        x.tick();
        // Sides 2, 1 and 2: what was sent while they were parted comes.
        x.part(2 + 3 + 2 * 9);
        while (x.look(3) > 0) {
            x.deliver(0);
        }
        due("reached by 0", x.about(0, 11), 5);
        due("reached by 1", x.about(1, 11), 2);
        due("reached by 2", x.about(2, 11), 5);
    }

    private static void receiverOut() {
        ViewHall x = saidHello(2, 30);
        x.tick();
        x.tick();
        x.crash(1);
        int packets = x.look(3);
        carry(x, HELLO, 0, 1);
        due("it has gone", x.look(3), packets - 1);
        x.join(1);
        due("reached", x.about(1, 11), 2);
        carry(x, HELLO, 0, 1);
        due("reached", x.about(1, 11), 3);
    }

    private static void senderOut() {
        ViewHall x = saidHello(2, 30);
        x.crash(0);
        carry(x, HELLO, 0, 1);
        due("reached", x.about(1, 11), 3);
        ViewHall y = saidHello(2, 30);
        y.crash(0);
        y.part(1);
        carry(y, HELLO, 0, 1);
        due("of an OUT one the side counts, too", y.about(1, 11), 2);
    }

    private static void heardByElder() {
        ViewHall x = joined(2, 6);
        for (int i = 0; i < 4; i++) {
            x.tick();
        }
        carryLast(x, HELLO, 0, 1);
        x.tick();
        x.tick();
        carry(x, HELLO, 0, 1);
        for (int i = 0; i < 6; i++) {
            x.tick();
        }
        due("heard 6 ticks ago by the elder one", x.about(1, 11), 3);
        x.tick();
        due("heard 7 ticks ago", x.about(1, 11), 2);
    }

    private static void byeUnheard() {
        ViewHall x = formed(3, 30);
        x.leave(1);
        due("reached by 0", x.about(0, 11), 7);
        carry(x, BYE, 1, 0);
        due("reached by 0", x.about(0, 11), 5);
        due("reached by 2, which it has not come to", x.about(2, 11), 7);
        // It is not heard any more even if a newer packet came first.
        x.join(1);
        nextHellos(x);
        carry(x, HELLO, 1, 2);
        due("reached by 2", x.about(2, 11) & 2, 2);
        carry(x, BYE, 1, 2);
        due("reached by 2", x.about(2, 11) & 2, 0);
    }

    private static void byeThenElder() {
        ViewHall x = formed(2, 30);
        x.tick();
        x.tick();
        x.leave(1);
        carry(x, BYE, 1, 0);
        due("reached", x.about(0, 11), 1);
        due("the HELLO is elder", x.packet(find(x, HELLO, 1, 0), 4) < x.about(1, 3) ? 1 : 0, 1);
        carry(x, HELLO, 1, 0);
        due("reached", x.about(0, 11), 3);
    }

    /** In a view of two 1 has said HELLO in it, then crashed, joined anew and said HELLO again. */
    private static ViewHall elderAndNewer() {
        ViewHall x = formed(2, 30);
        tickTo(x, 2);
        x.crash(1);
        x.join(1);
        x.tick();
        x.tick();
        due("HELLOs of 1", find(x, HELLO, 1, 0) < findLast(x, HELLO, 1, 0) ? 1 : 0, 1);
        return x;
    }

    private static void knownByGreater() {
        // Whether 0 knows 1's new PROMISE shows in its turn: it is not 0's VIEW.
        ViewHall neither = elderAndNewer();
        neither.tick();
        due("nothing known", neither.about(0, 12), 0);
        ViewHall elder = elderAndNewer();
        carry(elder, HELLO, 1, 0);
        elder.tick();
        due("the elder", elder.about(0, 12), 0);
        ViewHall newer = elderAndNewer();
        carryLast(newer, HELLO, 1, 0);
        newer.tick();
        due("the newer", newer.about(0, 12), 1);
        ViewHall inOrder = elderAndNewer();
        carry(inOrder, HELLO, 1, 0);
        carry(inOrder, HELLO, 1, 0);
        inOrder.tick();
        due("the elder, then the newer", inOrder.about(0, 12), 1);
        ViewHall turned = elderAndNewer();
        carryLast(turned, HELLO, 1, 0);
        carry(turned, HELLO, 1, 0);
        turned.tick();
        due("the newer, then the elder", turned.about(0, 12), 1);
    }

    /** To one that joins anew an elder packet is the first that came: it is heard and counts. */
    private static void knownSinceJoin() {
        ViewHall x = joined(2, 30);
        for (int i = 0; i < 4; i++) {
            x.tick();
        }
        carryLast(x, HELLO, 1, 0);
        x.crash(0);
        x.join(0);
        due("reached", x.about(0, 11), 1);
        carry(x, HELLO, 1, 0);
        due("reached", x.about(0, 11), 3);
        x.tick();
        due("S", x.about(0, 13), 3);
        carryLast(x, PROPOSE, 0, 1);
        carry(x, REPLY, 1, 0);
        carry(x, CUT, 0, 1);
        carry(x, READY, 1, 0);
        carry(x, INSTALL, 0, 1);
        x.tick();
        due("both are in one view", x.about(0, 7) + x.about(1, 7), 6);
        carryLast(x, HELLO, 1, 0);
        tickTo(x, 4);
        due("no INSTALL again: its VIEW is known", count(x, INSTALL), 0);
        due("no attempt: its PROMISE is known", x.about(0, 12), 0);
    }

    private static void counterGrows() {
        ViewHall x = joined(3, 30);
        x.crash(2);
        x.join(2);
        x.tick();
        x.tick();
        // PROMISE numbers: 1 of 0, 1 of 1, 2 of 2.
        carry(x, HELLO, 1, 0);
        due("of the same number it stays", x.about(0, 2), 1);
        carry(x, HELLO, 2, 0);
        due("of a greater one it becomes that", x.about(0, 2), 2);
        carry(x, HELLO, 0, 2);
        due("of a less one it stays", x.about(2, 2), 2);
    }

    // ---- views

    private static void joinAnew() {
        ViewHall x = formed(3, 8);
        x.send(1, AGREED, 2);
        for (int c = 0; c < 4; c++) {
            x.send(1, AGREED, 5 << 4 | c << 2);
        }
        x.go(8, 1, 0);
        due("OWNER", x.about(1, 19), 1);
        due("APPLIED", x.about(1, 18), 5);
        int counter = x.about(1, 2);
        x.crash(1);
        x.join(1);
        due("COUNTER", x.about(1, 2), counter + 1);
        due("VIEW, number", x.about(1, 5), counter + 1);
        due("VIEW, process", x.about(1, 6), 1);
        promise(x, 1, counter + 1, 1);
        due("MEMBERS", x.about(1, 7), 2);
        due("MODE", x.about(1, 10), 0);
        due("nobody was heard", x.about(1, 11), 2);
        due("APPLIED", x.about(1, 18), 0);
        due("OWNER", x.about(1, 19), -1);
        for (int what = 20; what < 24; what++) {
            due("CELL", x.about(1, what), 0);
        }
    }

    private static void leaveSaysBye() {
        ViewHall x = formed(4, 8);
        x.part(27);
        x.go(30, 1, 0);
        due("MEMBERS of 1", x.about(1, 7), 7);
        loseAll(x);
        x.leave(1);
        due("packets: to 0 and 2, not to 3", x.look(3), 2);
        due("kind", x.packet(0, 0), BYE);
        due("for", x.packet(0, 2), 0);
        due("kind", x.packet(1, 0), BYE);
        due("for", x.packet(1, 2), 2);
    }

    private static void leaveAlone() {
        ViewHall x = joined(3, 8);
        x.leave(0);
        due("packets", x.look(3), 0);
        due("sent", x.look(4), 0);
        due("IN", x.about(0, 0), 0);
    }

    private static void leaveNotOpen() {
        ViewHall x = lacking();
        loseAll(x);
        int number = x.about(0, 5);
        x.leave(0);
        due("BYEs to all of its view", x.look(3), 3);
        dueAll("BYE", head(x, 2), BYE, 0, 3, 41, x.about(0, 3), number, 0, number + 1, 0);
    }

    private static void crashSaysNothing() {
        ViewHall x = formed(3, 8);
        int sent = x.look(4);
        int serial = x.about(1, 3);
        x.crash(1);
        due("packets", x.look(3), 0);
        due("sent", x.look(4), sent);
        due("SERIAL", x.about(1, 3), serial);
        due("IN", x.about(1, 0), 0);
    }

    private static void always() {
        ViewHall x = joined(5, 6);
        for (int i = 0; i < 200; i++) {
            x.go(1, i, i % 5);
            if (i % 25 == 24) {
                x.part(i * 7 % 243);
            } else if (i % 25 == 12) {
                x.part(0);
            } else if (i % 40 == 39 && x.about(i / 40, 0) == 1) {
                x.crash(i / 40);
            }
            for (int p = 0; p < 5; p++) {
                if (x.about(p, 0) == 1) {
                    holds(x, p);
                }
            }
        }
    }

    private static void holds(ViewHall x, int p) {
        int view = x.about(p, 5) * 8 + x.about(p, 6);
        int promise = x.about(p, 8) * 8 + x.about(p, 9);
        int mode = x.about(p, 10);
        int members = x.about(p, 7);
        due("PROMISE is below VIEW", promise < view ? 1 : 0, 0);
        due("OPEN, just when PROMISE is VIEW", promise == view ? 1 : 0, mode == 0 ? 1 : 0);
        due("MODE is 0 .. 3", mode >= 0 && mode <= 3 ? 1 : 0, 1);
        due("the head is the least member", 1 << x.about(p, 6), Integer.lowestOneBit(members));
        due("it is a member", members >> p & 1, 1);
        due("it reaches itself", x.about(p, 11) >> p & 1, 1);
        if (x.about(p, 12) != 0) {
            due("an attempt's ID is its PROMISE", x.about(p, 9), p);
            due("an attempt's process is not OPEN", mode == 0 ? 1 : 0, 0);
        }
    }

    // ---- events

    private static void eventsOverJoins() {
        ViewHall x = new ViewHall();
        due("events", x.about(1, 4), 0);
        x.join(1);
        x.send(1, FIFO, 9);
        x.leave(1);
        x.join(1);
        x.crash(1);
        due("events", x.about(1, 4), 5);
        dueAll("event 0", event(x, 1, 0), 1, 1, 1, 2, 0);
        dueAll("event 1", event(x, 1, 1), 2, 1, 1, FIFO, 9);
        dueAll("event 2", event(x, 1, 2), 3, 0, 0, 0, 0);
        dueAll("event 3", event(x, 1, 3), 1, 2, 1, 2, 0);
        dueAll("event 4", event(x, 1, 4), 3, 0, 0, 0, 0);
        due("events of another", x.about(0, 4), 0);
    }

    private static void latestEvents() {
        ViewHall x = new ViewHall();
        x.join(2);
        for (int i = 1; i <= 63; i++) {
            x.send(2, FIFO, i);
        }
        due("events", x.about(2, 4), 64);
        dueAll("event 0", event(x, 2, 0), 1, 1, 2, 4, 0);
        x.send(2, FIFO, 64);
        refused(x, INDEX, "event 0", () -> x.event(2, 0, 0));
        for (int k = 1; k <= 64; k++) {
            dueAll("event " + k, event(x, 2, k), 2, 2, k, FIFO, k);
        }
        for (int i = 65; i <= 200; i++) {
            x.send(2, FIFO, i);
        }
        refused(x, INDEX, "event 136", () -> x.event(2, 136, 0));
        for (int k = 137; k <= 200; k++) {
            dueAll("event " + k, event(x, 2, k), 2, 2, k, FIFO, k);
        }
    }

    private static void viewEvents() {
        ViewHall x = joined(2, 8);
        x.send(0, AGREED, 16);
        x.send(0, AGREED, 16);
        dueAll("the join's", event(x, 1, 0), 1, 1, 1, 2, 0);
        x.go(30, 1, 0);
        due("events of 1", x.about(1, 4), 2);
        dueAll("the installing's, with APPLIED as told", event(x, 1, 1), 1, x.about(1, 5), 0, 3, 2);
        dueAll("that of 0", lastEvent(x, 0), 1, x.about(0, 5), 0, 3, 2);
    }

    private static void deliveryEvents() {
        ViewHall x = formed(3, 30);
        int events = x.about(0, 4);
        x.send(2, AGREED, -9);
        due("none for what is not passed", x.about(2, 4), x.about(1, 4));
        carry(x, DATA, 2, 0);
        due("one, and none for the ORDER", x.about(0, 4), events + 1);
        dueAll("a delivery", lastEvent(x, 0), 2, 2, 1, AGREED, -9);
        x.send(0, CAUSAL, 7);
        dueAll("a delivery of its own", lastEvent(x, 0), 2, 0, 2, CAUSAL, 7);
    }

    private static void outEvents() {
        ViewHall x = formed(2, 8);
        x.leave(0);
        dueAll("after a leave", lastEvent(x, 0), 3, 0, 0, 0, 0);
        x.crash(1);
        dueAll("after a crash", lastEvent(x, 1), 3, 0, 0, 0, 0);
    }
}
