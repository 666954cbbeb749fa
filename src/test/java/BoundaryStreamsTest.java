/** The term 3, streams: for each sentence that names an edge a test of its own. */
public final class BoundaryStreamsTest extends Checks {
    public static void main(String[] args) {
        having();
        posting();
        passing();
        ordering();
        receiving();
        states();
        finish();
    }

    private static void having() {
        test("MESSAGES with numbers 1, 2, ..", BoundaryStreamsTest::numbers);
        test("All of the following begins anew with each view", BoundaryStreamsTest::anewWithView);
        test("GOT u: from number 1 on without a gap", BoundaryStreamsTest::gaps);
        test("GOT u: the longest gap a member sends", BoundaryStreamsTest::gapOfEight);
        test("GOT u: the longest gap the head sends", BoundaryStreamsTest::gapOfTwelve);
        test("a message that it has comes again", BoundaryStreamsTest::twice);
        test("a message that all have passed comes again", BoundaryStreamsTest::longAfter);
        test("QDONE u, QGOT u: the greatest told", BoundaryStreamsTest::greatestTold);
        test("QDONE u, QGOT u: that q's HELLOs in this view told", BoundaryStreamsTest::toldInThisView);
        test("STABLE is the least DONE among all members", BoundaryStreamsTest::stable);
        test("STABLE: its own DONE, too", BoundaryStreamsTest::stableByItself);
        test("can forget k - 12: DATA of 12 again", BoundaryStreamsTest::twelveAgain);
        test("can forget k - 12: FILL of 12", BoundaryStreamsTest::twelveFilled);
    }

    private static void posting() {
        test("ORDERS: when GOT u passes an ORDER message", BoundaryStreamsTest::entryWhenGot);
        test("ORDERS: of every message that one lacks", BoundaryStreamsTest::manyEntries);
        test("ORDERS: value 8 * n + v", BoundaryStreamsTest::orderValue);
        test("POST: its PAST N numbers of DONE", BoundaryStreamsTest::past);
        test("POST: DATA to all other members", BoundaryStreamsTest::dataToMembers);
    }

    private static void passing() {
        test("CLEAR if its PAST v is not above DONE v", BoundaryStreamsTest::clear);
        test("the front of the least u that can be passed", BoundaryStreamsTest::leastFront);
        test("an ORDER always", BoundaryStreamsTest::orderAlways);
        test("FIFO always", BoundaryStreamsTest::fifoAlways);
        test("CAUSAL if clear", BoundaryStreamsTest::causalIfClear);
        test("AGREED if the first of ORDERS is its", BoundaryStreamsTest::agreedFirst);
        test("AGREED if clear", BoundaryStreamsTest::agreedIfClear);
        test("SAFE: QGOT u not below its number", BoundaryStreamsTest::safeMessage);
        test("SAFE: QGOT of the head's stream not below the entry's place", BoundaryStreamsTest::safePlace);
        test("SAFE: QGOT v not below DONE v for all v", BoundaryStreamsTest::safeDone);
        test("SAFE: QGOT v not below DONE v, the head's stream", BoundaryStreamsTest::safeDoneOfHead);
        test("SAFE likewise: the first of ORDERS", BoundaryStreamsTest::safeFirst);
        test("SAFE of one that is alone", BoundaryStreamsTest::safeAlone);
    }

    private static void ordering() {
        test("if it is the head of its view", BoundaryStreamsTest::onlyHeadOrders);
        test("GOT less STABLE is below 12", BoundaryStreamsTest::orderBelowTwelve);
        test("the least u whose front is AGREED or SAFE", BoundaryStreamsTest::leastUnordered);
        test("clear, or it is not ordered", BoundaryStreamsTest::unclearUnordered);
        test("and in no entry of ORDERS", BoundaryStreamsTest::orderedOnce);
    }

    private static void receiving() {
        test("DATA, received by one that is OPEN", BoundaryStreamsTest::dataWhenNotOpen);
        test("DATA, in the packet's VIEW", BoundaryStreamsTest::dataOfElderView);
        test("HELLO (N numbers of DONE, N numbers of GOT)", BoundaryStreamsTest::helloBody);
        test("HELLO, received by one that is not OPEN", BoundaryStreamsTest::helloWhenNotOpen);
    }

    private static void states() {
        test("STATE at first 0, -1, 0s", BoundaryStreamsTest::stateAtFirst);
        test("for w & 3 = 0 cell c becomes x", BoundaryStreamsTest::cellSet);
        test("1: x is added to cell c (as an int)", BoundaryStreamsTest::cellAdded);
        test("2: u becomes the owner if there is none", BoundaryStreamsTest::ownerClaimed);
        test("3: there is none any more if u is it", BoundaryStreamsTest::ownerGone);
        test("AGREED and SAFE messages alone change it", BoundaryStreamsTest::stateByOrdered);
        test("STATE by the least and the greatest value", BoundaryStreamsTest::stateOfExtremes);
    }

    /** The HELLOs of the next even TIME come, and all that was or is sent besides is lost. */
    private static void onlyHellos(ViewHall x) {
        loseAll(x);
        hellos(x);
    }

    // ---- having

    private static void numbers() {
        ViewHall x = formed(2, 30);
        for (int i = 1; i <= 8; i++) {
            due("send", x.send(1, FIFO, i), i);
            due("number in the packet", x.packet(i - 1, 9), i);
            due("GOT", got(x, 1, 1), i);
        }
    }

    private static void anewWithView() {
        ViewHall x = formed(3, 30);
        x.send(1, AGREED, 16);
        x.send(1, FIFO, 3);
        carry(x, DATA, 1, 0);
        carry(x, DATA, 0, 2);
        carry(x, DATA, 0, 1);
        due("an entry waits", x.about(2, 17), 1);
        due("an entry is used", done(x, 1, 1), 2);
        onlyHellos(x);
        due("QGOT", x.stream(2, 3, 1, 1), 2);
        x.leave(2);
        x.go(30, 1, 0);
        x.join(2);
        x.go(30, 1, 0);
        for (int p = 0; p < 3; p++) {
            due("MEMBERS", x.about(p, 7), 7);
            due("ORDERS", x.about(p, 17), 0);
            due("STABLE", x.about(p, 16), 0);
            for (int i = 0; i < 36; i++) {
                due("stream " + i, x.stream(p, i / 9, i / 3 % 3, i % 3), 0);
            }
        }
        // Nor do the orders of an elder view count.
        loseAll(x);
        due("send", x.send(1, AGREED, 32), 1);
        due("DONE at its sender", done(x, 1, 1), 0);
        carry(x, DATA, 1, 2);
        due("DONE at another", done(x, 2, 1), 0);
        carry(x, DATA, 1, 0);
        due("the head orders it", got(x, 0, 0), 1);
        due("DONE at the head", done(x, 0, 1), 1);
    }

    private static void gaps() {
        ViewHall x = formed(2, 30);
        for (int i = 1; i <= 5; i++) {
            x.send(1, FIFO, i);
        }
        int events = x.about(0, 4);
        int[] order = {3, 5, 1, 4, 2};
        int[] want = {0, 0, 1, 1, 5};
        for (int i = 0; i < 5; i++) {
            carryData(x, 1, 0, order[i]);
            due("GOT after " + order[i], got(x, 0, 1), want[i]);
            due("DONE after " + order[i], done(x, 0, 1), want[i]);
        }
        for (int i = 1; i <= 5; i++) {
            dueAll("event", event(x, 0, events + i - 1), 2, 1, i, FIFO, i);
        }
    }

    private static void gapOfEight() {
        ViewHall x = formed(2, 30);
        for (int i = 1; i <= 8; i++) {
            x.send(1, FIFO, i);
        }
        for (int i = 8; i >= 2; i--) {
            carryData(x, 1, 0, i);
            due("GOT", got(x, 0, 1), 0);
        }
        carryData(x, 1, 0, 1);
        due("GOT", got(x, 0, 1), 8);
        dueAll("event", lastEvent(x, 0), 2, 1, 8, FIFO, 8);
    }

    /** The head 0 has posted 12 that nobody else has passed: 7 FIFO and 5 ORDERs for 1's; 3 of 1's are in no order. */
    private static ViewHall twelve(int n) {
        ViewHall x = formed(n, 30);
        for (int i = 1; i <= 7; i++) {
            x.send(0, FIFO, i);
        }
        for (int i = 1; i <= 8; i++) {
            x.send(1, AGREED, 16 + 1);
            carry(x, DATA, 1, 0);
        }
        due("GOT of the head's", got(x, 0, 0), 12);
        return x;
    }

    private static void gapOfTwelve() {
        ViewHall x = twelve(2);
        for (int i = 12; i >= 2; i--) {
            carryData(x, 0, 1, i);
            due("GOT", got(x, 1, 0), 0);
            due("ORDERS", x.about(1, 17), 0);
        }
        carryData(x, 0, 1, 1);
        due("GOT", got(x, 1, 0), 12);
        due("DONE", done(x, 1, 0), 12);
        due("DONE of its own by the orders", done(x, 1, 1), 5);
        due("CELL", x.about(1, 20), 5);
    }

    private static void twice() {
        ViewHall x = formed(3, 30);
        x.send(1, AGREED, 2);
        carry(x, DATA, 1, 0);
        int events = x.about(0, 4);
        tickTo(x, 4);
        carry(x, DATA, 1, 0);
        due("GOT", got(x, 0, 1), 1);
        due("DONE", done(x, 0, 1), 1);
        due("events", x.about(0, 4), events);
        due("no ORDER again", got(x, 0, 0), 1);
        // An ORDER that comes again makes no second entry.
        carry(x, DATA, 0, 2);
        due("ORDERS", x.about(2, 17), 1);
        tickTo(x, 4);
        carry(x, DATA, 0, 2);
        due("ORDERS", x.about(2, 17), 1);
    }

    /** The first packet of 1 is held back till its seventeenth message waits at 0. */
    private static void longAfter() {
        ViewHall x = formed(2, 30);
        x.send(1, FIFO, 1);
        for (int i = 2; i <= 17; i++) {
            x.tick();
            x.tick();
            deliverAllButFirst(x);
            due("send", x.send(1, i == 17 ? SAFE : FIFO, i), i);
        }
        deliverAllButFirst(x);
        due("GOT", got(x, 0, 1), 17);
        due("DONE", done(x, 0, 1), 16);
        int events = x.about(0, 4);
        due("the first packet's number", x.packet(0, 9), 1);
        x.deliver(0);
        due("GOT", got(x, 0, 1), 17);
        due("DONE", done(x, 0, 1), 16);
        due("events", x.about(0, 4), events);
        onlyHellos(x);
        due("events", x.about(0, 4), events + 1);
        dueAll("the seventeenth", lastEvent(x, 0), 2, 1, 17, SAFE, 17);
    }

    private static void deliverAllButFirst(ViewHall x) {
        while (x.look(3) > 1) {
            x.deliver(1);
        }
    }

    private static void greatestTold() {
        ViewHall x = formed(2, 30);
        x.tick();
        x.tick();
        x.send(1, FIFO, 1);
        x.send(1, AGREED, 2);
        x.tick();
        x.tick();
        carryLast(x, HELLO, 1, 0);
        due("QDONE", x.stream(0, 2, 1, 1), 1);
        due("QGOT", x.stream(0, 3, 1, 1), 2);
        carry(x, HELLO, 1, 0);
        due("QDONE after an elder one", x.stream(0, 2, 1, 1), 1);
        due("QGOT after an elder one", x.stream(0, 3, 1, 1), 2);
    }

    private static void toldInThisView() {
        ViewHall x = formed(3, 30);
        x.send(1, FIFO, 1);
        tickTo(x, 2);
        due("GOT in the HELLO", x.packet(find(x, HELLO, 1, 0), 9 + 3 + 1), 1);
        x.leave(2);
        carry(x, BYE, 2, 0);
        x.tick();
        replyAll(x);
        carry(x, CUT, 0, 1);
        carry(x, FILL, 1, 0);
        carry(x, READY, 1, 0);
        carry(x, INSTALL, 0, 1);
        due("MEMBERS of 1", x.about(1, 7), 3);
        carry(x, HELLO, 1, 0);
        due("QGOT by a HELLO of the elder view", x.stream(0, 3, 1, 1), 0);
        due("QDONE by a HELLO of the elder view", x.stream(0, 2, 1, 1), 0);
    }

    private static void stable() {
        ViewHall x = formed(3, 30);
        x.send(0, FIFO, 1);
        x.send(0, FIFO, 2);
        carryData(x, 0, 1, 1);
        carryData(x, 0, 1, 2);
        carryData(x, 0, 2, 1);
        due("nothing told", x.about(0, 16), 0);
        loseAll(x);
        tickTo(x, 2);
        carry(x, HELLO, 1, 0);
        due("one of two told", x.about(0, 16), 0);
        carry(x, HELLO, 2, 0);
        due("both told", x.about(0, 16), 1);
        tickTo(x, 4);
        carryData(x, 0, 2, 2);
        onlyHellos(x);
        due("both told all", x.about(0, 16), 2);
    }

    private static void stableByItself() {
        ViewHall x = formed(3, 30);
        x.send(1, AGREED, 0);
        carry(x, DATA, 1, 0);
        carry(x, DATA, 1, 2);
        carry(x, DATA, 0, 2);
        onlyHellos(x);
        due("QDONE of 0", x.stream(1, 2, 1, 0), 1);
        due("QDONE of 2", x.stream(1, 2, 1, 2), 1);
        due("its own DONE", done(x, 1, 1), 0);
        due("STABLE", x.about(1, 16), 0);
    }

    private static void twelveAgain() {
        ViewHall x = twelve(2);
        tickTo(x, 4);
        loseOthers(x, DATA);
        for (int i = 1; i <= 12; i++) {
            int k = i - 1;
            due("sender", x.packet(k, 1), 0);
            due("number", x.packet(k, 9), i);
            due("sort", x.packet(k, 10), i <= 7 ? FIFO : ORDER);
            due("value", x.packet(k, 11), i <= 7 ? i : 8 * (i - 7) + 1);
            due("PAST of its own", x.packet(k, 12), i - 1);
        }
        due("then those of 1", x.packet(12, 1), 1);
        due("DATA", x.look(3), 20);
    }

    private static void twelveFilled() {
        ViewHall x = twelve(3);
        for (int i = 1; i <= 12; i++) {
            carryData(x, 0, 1, i);
        }
        x.leave(0);
        carry(x, BYE, 0, 1);
        loseAll(x);
        x.tick();
        carry(x, PROPOSE, 1, 2);
        carry(x, REPLY, 2, 1);
        due("FILLs: 12 of 0's and 8 of 1's", count(x, FILL), 20);
        carry(x, CUT, 1, 2);
        for (int left = 20; left > 1; left--) {
            carryLast(x, FILL, 1, 2);
            due("MODE", x.about(2, 10), 2);
        }
        due("GOT of 1's", got(x, 2, 1), 8);
        due("GOT of 0's", got(x, 2, 0), 0);
        carry(x, FILL, 1, 2);
        due("GOT of 0's", got(x, 2, 0), 12);
        due("MODE", x.about(2, 10), 3);
        carry(x, READY, 2, 1);
        due("CELL", x.about(1, 20), 8);
    }

    // ---- posting

    private static void entryWhenGot() {
        ViewHall x = formed(3, 30);
        x.send(0, FIFO, 1);
        x.send(1, AGREED, 0);
        carry(x, DATA, 1, 0);
        carryData(x, 0, 2, 2);
        due("ORDERS behind a gap", x.about(2, 17), 0);
        carryData(x, 0, 2, 1);
        due("ORDERS", x.about(2, 17), 1);
        carry(x, DATA, 1, 2);
        due("ORDERS", x.about(2, 17), 0);
        due("DONE", done(x, 2, 1), 1);
    }

    /** 1 to 5 send all they may, and only the head gets it; of the head come its ORDERs to all, with HELLOs. */
    private static void manyEntries() {
        ViewHall x = formed(6, 30);
        for (int p = 1; p <= 5; p++) {
            for (int i = 1; i <= 8; i++) {
                due("send", x.send(p, AGREED, 1), i);
                carryData(x, p, 0, i);
            }
        }
        loseAll(x);
        for (int i = 0; i < 20; i++) {
            x.tick();
            while (x.look(3) > 0) {
                boolean comes = x.packet(0, 0) == HELLO || x.packet(0, 0) == DATA && x.packet(0, 1) == 0;
                if (comes) {
                    x.deliver(0);
                } else {
                    x.lose(0);
                }
            }
        }
        due("ORDERS of the head", x.about(0, 17), 0);
        due("ORDERS of 1, which has its own", x.about(1, 17), 32);
        due("ORDERS of 5", x.about(5, 17), 40);
        for (int i = 0; i < 4; i++) {
            due("send of the head", x.send(0, AGREED, 1), 41 + 2 * i);
            carryData(x, 0, 5, 41 + 2 * i);
            carryData(x, 0, 5, 42 + 2 * i);
        }
        due("ORDERS of 5", x.about(5, 17), 44);
        sameOrder(x, 44);
    }

    /** All that is lacking comes, and each process has delivered so many messages in the head's order. */
    private static void sameOrder(ViewHall x, int messages) {
        x.go(20, 1, 0);
        for (int p = 0; p < x.look(0); p++) {
            due("APPLIED of " + p, x.about(p, 18), messages);
            due("ORDERS of " + p, x.about(p, 17), 0);
            for (int i = 1; i <= messages; i++) {
                dueAll("delivery " + i + " of " + p, event(x, p, x.about(p, 4) - i), event(x, 0, x.about(0, 4) - i));
            }
        }
    }

    private static void orderValue() {
        ViewHall x = formed(6, 30);
        for (int i = 1; i <= 7; i++) {
            x.send(5, FIFO, i);
            carryData(x, 5, 0, i);
        }
        x.send(5, AGREED, 0);
        carryData(x, 5, 0, 8);
        int k = find(x, DATA, 0, 5);
        dueAll("ORDER", body(x, k, 3), 1, ORDER, 8 * 8 + 5);
        x.send(0, SAFE, 0);
        dueAll("ORDER of the head's own", body(x, x.look(3) - 1, 3), 3, ORDER, 8 * 2);
    }

    private static void past() {
        ViewHall x = formed(3, 30);
        x.send(0, FIFO, 1);
        dueAll("PAST", body(x, 0, 7), 1, FIFO, 1, 0, 0, 0, 0);
        x.send(2, AGREED, 0);
        dueAll("PAST", body(x, findLast(x, DATA, 2, 1), 7), 1, AGREED, 0, 0, 0, 0, 0);
        x.send(2, FIFO, 0);
        dueAll("PAST: its own is not passed", body(x, findLast(x, DATA, 2, 1), 7), 2, FIFO, 0, 0, 0, 0, 0);
        carry(x, DATA, 0, 1);
        x.send(1, FIFO, 5);
        dueAll("PAST", body(x, findLast(x, DATA, 1, 2), 7), 1, FIFO, 5, 1, 0, 0, 0);
        x.send(1, CAUSAL, 6);
        dueAll("PAST", body(x, findLast(x, DATA, 1, 2), 7), 2, CAUSAL, 6, 1, 1, 0, 0);
        ViewHall y = formed(6, 30);
        y.send(5, FIFO, 1);
        y.send(5, FIFO, 2);
        dueAll("PAST of six", body(y, 5, 10), 2, FIFO, 2, 0, 0, 0, 0, 0, 1, 0);
    }

    private static void dataToMembers() {
        ViewHall x = formed(4, 8);
        x.part(3);
        x.go(30, 1, 0);
        due("MEMBERS", x.about(2, 7), 13);
        loseAll(x);
        x.send(2, FIFO, 1);
        due("packets", x.look(3), 2);
        due("for", x.packet(0, 2), 0);
        due("for", x.packet(1, 2), 3);
        x.send(1, FIFO, 1);
        due("of one that is alone none", x.look(3), 2);
    }

    // ---- passing

    /** 1 has two FIFO messages of 0 and sends one of this sort; nothing has come to 2. */
    private static ViewHall dependent(int sort) {
        ViewHall x = formed(3, 30);
        x.send(0, FIFO, 1);
        x.send(0, FIFO, 2);
        carryData(x, 0, 1, 1);
        carryData(x, 0, 1, 2);
        x.send(1, sort, 3);
        return x;
    }

    private static void clear() {
        ViewHall x = dependent(CAUSAL);
        carry(x, DATA, 1, 2);
        due("PAST is 2, DONE 0", done(x, 2, 1), 0);
        carryData(x, 0, 2, 1);
        due("PAST is 2, DONE 1", done(x, 2, 1), 0);
        carryData(x, 0, 2, 2);
        due("PAST is 2, DONE 2", done(x, 2, 1), 1);
        ViewHall y = dependent(CAUSAL);
        carryData(y, 0, 2, 1);
        carryData(y, 0, 2, 2);
        y.send(0, FIFO, 4);
        carryData(y, 0, 2, 3);
        carry(y, DATA, 1, 2);
        due("PAST is 2, DONE 3", done(y, 2, 1), 1);
    }

    private static void leastFront() {
        ViewHall x = formed(4, 30);
        x.send(3, FIFO, 7);
        carry(x, DATA, 3, 2);
        carry(x, DATA, 3, 1);
        x.send(2, CAUSAL, 8);
        x.send(1, CAUSAL, 9);
        int events = x.about(0, 4);
        carry(x, DATA, 2, 0);
        carry(x, DATA, 1, 0);
        due("none is passed", x.about(0, 4), events);
        carry(x, DATA, 3, 0);
        dueAll("first", event(x, 0, events), 2, 3, 1, FIFO, 7);
        dueAll("second", event(x, 0, events + 1), 2, 1, 1, CAUSAL, 9);
        dueAll("third", event(x, 0, events + 2), 2, 2, 1, CAUSAL, 8);
    }

    private static void orderAlways() {
        ViewHall x = formed(3, 30);
        x.send(1, FIFO, 1);
        carry(x, DATA, 1, 0);
        x.send(1, AGREED, 0);
        carryData(x, 1, 0, 2);
        due("PAST of the ORDER", x.packet(find(x, DATA, 0, 2), 13), 1);
        carry(x, DATA, 0, 2);
        due("DONE of 1's", done(x, 2, 1), 0);
        due("DONE of the head's", done(x, 2, 0), 1);
    }

    private static void fifoAlways() {
        ViewHall x = dependent(FIFO);
        carry(x, DATA, 1, 2);
        due("DONE of 0's", done(x, 2, 0), 0);
        due("DONE of 1's", done(x, 2, 1), 1);
    }

    private static void causalIfClear() {
        ViewHall x = dependent(CAUSAL);
        x.send(1, FIFO, 4);
        carry(x, DATA, 1, 2);
        carry(x, DATA, 1, 2);
        due("GOT of 1's", got(x, 2, 1), 2);
        due("the FIFO behind it waits, too", done(x, 2, 1), 0);
        carry(x, DATA, 0, 2);
        carry(x, DATA, 0, 2);
        due("DONE of 1's", done(x, 2, 1), 2);
    }

    private static void agreedFirst() {
        ViewHall x = formed(3, 30);
        x.send(1, AGREED, 16);
        x.send(2, AGREED, 32);
        carry(x, DATA, 2, 0);
        carry(x, DATA, 1, 0);
        carryData(x, 0, 1, 1);
        carryData(x, 0, 1, 2);
        due("ORDERS: 2's, then 1's", x.about(1, 17), 2);
        due("1's own is the second", done(x, 1, 1), 0);
        carry(x, DATA, 2, 1);
        due("ORDERS", x.about(1, 17), 0);
        due("DONE of 2's", done(x, 1, 2), 1);
        due("DONE of 1's", done(x, 1, 1), 1);
        due("the last that set the CELL", x.about(1, 20), 1);
        // By no entry at all it is not passed.
        due("DONE of 2's own", done(x, 2, 2), 0);
    }

    private static void agreedIfClear() {
        ViewHall x = formed(4, 30);
        x.send(2, FIFO, 1);
        carry(x, DATA, 2, 1);
        carry(x, DATA, 2, 0);
        x.send(1, AGREED, 16);
        carry(x, DATA, 1, 0);
        due("DONE of the head", done(x, 0, 1), 1);
        carry(x, DATA, 0, 3);
        carry(x, DATA, 1, 3);
        due("ORDERS: it is the first", x.about(3, 17), 1);
        due("but not clear", done(x, 3, 1), 0);
        carry(x, DATA, 2, 3);
        due("now it is", done(x, 3, 1), 1);
        due("ORDERS", x.about(3, 17), 0);
    }

    private static void safeMessage() {
        ViewHall x = formed(3, 30);
        x.send(1, SAFE, 16);
        carry(x, DATA, 1, 0);
        carry(x, DATA, 0, 1);
        carry(x, DATA, 0, 2);
        onlyHellos(x);
        due("QGOT of the head's at 2", x.stream(0, 3, 0, 2), 1);
        due("QGOT of 1's at 2", x.stream(0, 3, 1, 2), 0);
        due("DONE at 0", done(x, 0, 1), 0);
        due("DONE at 1", done(x, 1, 1), 0);
        tickTo(x, 4);
        carry(x, DATA, 1, 2);
        onlyHellos(x);
        due("QGOT of 1's at 2", x.stream(0, 3, 1, 2), 1);
        due("DONE at 0", done(x, 0, 1), 1);
        due("DONE at 1", done(x, 1, 1), 1);
    }

    /** The head's own: its ORDER stands behind it, so that nothing of the stream is passed when it is looked at. */
    private static void safePlace() {
        ViewHall x = formed(3, 30);
        x.send(0, SAFE, 16);
        due("GOT: itself and its ORDER", got(x, 0, 0), 2);
        carryData(x, 0, 1, 1);
        carryData(x, 0, 1, 2);
        carryData(x, 0, 2, 1);
        onlyHellos(x);
        due("QGOT at 1", x.stream(0, 3, 0, 1), 2);
        due("QGOT at 2", x.stream(0, 3, 0, 2), 1);
        due("DONE at 0", done(x, 0, 0), 0);
        due("DONE at 1", done(x, 1, 0), 0);
        tickTo(x, 4);
        carryData(x, 0, 2, 2);
        onlyHellos(x);
        due("QGOT at 2", x.stream(0, 3, 0, 2), 2);
        due("DONE at 0", done(x, 0, 0), 2);
        due("DONE at 1", done(x, 1, 0), 2);
    }

    private static void safeDone() {
        ViewHall x = formed(3, 30);
        x.send(2, FIFO, 1);
        x.send(2, FIFO, 2);
        carryData(x, 2, 0, 1);
        carryData(x, 2, 0, 2);
        carryData(x, 2, 1, 1);
        loseAll(x);
        x.send(1, SAFE, 16);
        carry(x, DATA, 1, 0);
        carry(x, DATA, 1, 2);
        carry(x, DATA, 0, 1);
        carry(x, DATA, 0, 2);
        onlyHellos(x);
        due("DONE of 2's at 0", done(x, 0, 2), 2);
        due("QGOT of 2's at 1", x.stream(0, 3, 2, 1), 1);
        due("DONE at 0", done(x, 0, 1), 0);
        due("DONE at 1, which has not passed the second", done(x, 1, 1), 1);
        tickTo(x, 4);
        carryData(x, 2, 1, 2);
        onlyHellos(x);
        due("QGOT of 2's at 1", x.stream(0, 3, 2, 1), 2);
        due("DONE at 0", done(x, 0, 1), 1);
    }

    /** The head has passed a FIFO of its own behind the ORDER, which 1 lacks. */
    private static void safeDoneOfHead() {
        ViewHall x = formed(2, 30);
        x.send(1, SAFE, 16);
        carry(x, DATA, 1, 0);
        x.send(0, FIFO, 1);
        carryData(x, 0, 1, 1);
        onlyHellos(x);
        due("DONE of the head's", done(x, 0, 0), 2);
        due("QGOT of the head's at 1: the ORDER", x.stream(0, 3, 0, 1), 1);
        due("DONE at 0", done(x, 0, 1), 0);
        due("DONE at 1", done(x, 1, 1), 1);
        tickTo(x, 4);
        carryData(x, 0, 1, 2);
        onlyHellos(x);
        due("QGOT of the head's at 1", x.stream(0, 3, 0, 1), 2);
        due("DONE at 0", done(x, 0, 1), 1);
    }

    private static void safeFirst() {
        ViewHall x = formed(2, 30);
        x.send(0, SAFE, 16);
        x.send(1, SAFE, 32);
        carry(x, DATA, 1, 0);
        due("ORDERS of the head", x.about(0, 17), 2);
        for (int i = 1; i <= 3; i++) {
            carryData(x, 0, 1, i);
        }
        due("ORDERS of 1", x.about(1, 17), 2);
        int events = x.about(0, 4);
        onlyHellos(x);
        dueAll("first", event(x, 0, events), 2, 0, 1, SAFE, 16);
        dueAll("second", event(x, 0, events + 1), 2, 1, 1, SAFE, 32);
        due("ORDERS", x.about(0, 17), 0);
    }

    private static void safeAlone() {
        ViewHall x = new ViewHall();
        x.join(2);
        due("send", x.send(2, SAFE, 16), 1);
        due("DONE: itself and its ORDER", done(x, 2, 2), 2);
        due("CELL", x.about(2, 20), 1);
        for (int i = 0; i < 40; i++) {
            due("send", x.send(2, SAFE, 16), 3 + 2 * i);
        }
        due("STABLE", x.about(2, 16), 82);
        due("APPLIED", x.about(2, 18), 41);
    }

    // ---- ordering

    private static void onlyHeadOrders() {
        ViewHall x = formed(3, 30);
        x.send(1, AGREED, 0);
        x.send(2, SAFE, 0);
        carry(x, DATA, 1, 2);
        carry(x, DATA, 2, 1);
        for (int i = 0; i < 4; i++) {
            x.tick();
        }
        due("GOT of 1's", got(x, 1, 1), 1);
        due("GOT of 2's", got(x, 2, 2), 1);
        due("ORDERS of 1", x.about(1, 17), 0);
        // The head is the least member, not process 0.
        x.crash(0);
        x.go(60, 1, 0);
        due("head", x.about(2, 6), 1);
        loseAll(x);
        x.send(2, AGREED, 0);
        carry(x, DATA, 2, 1);
        due("ORDER", got(x, 1, 1), 1);
    }

    private static void orderBelowTwelve() {
        ViewHall x = formed(2, 30);
        for (int i = 1; i <= 8; i++) {
            x.send(0, FIFO, i);
        }
        for (int i = 1; i <= 7; i++) {
            x.send(1, AGREED, 0);
            carry(x, DATA, 1, 0);
            due("GOT of the head's", got(x, 0, 0), Math.min(12, 8 + i));
            due("DONE of 1's", done(x, 0, 1), Math.min(4, i));
        }
        carryData(x, 0, 1, 1);
        onlyHellos(x);
        due("STABLE", x.about(0, 16), 1);
        due("one more ORDER", got(x, 0, 0), 13);
        due("DONE of 1's", done(x, 0, 1), 5);
        x.tick();
        due("no more", got(x, 0, 0), 13);
    }

    private static void leastUnordered() {
        ViewHall x = formed(4, 30);
        x.send(3, FIFO, 7);
        carry(x, DATA, 3, 1);
        carry(x, DATA, 3, 2);
        x.send(2, AGREED, 32);
        x.send(1, SAFE, 16);
        carry(x, DATA, 2, 0);
        carry(x, DATA, 1, 0);
        due("no ORDER: neither is clear", got(x, 0, 0), 0);
        carry(x, DATA, 3, 0);
        due("two ORDERs", got(x, 0, 0), 2);
        loseOthers(x, DATA);
        due("the first", x.packet(find(x, DATA, 0, 3), 11), 8 + 1);
        due("the second", x.packet(findLast(x, DATA, 0, 3), 11), 8 + 2);
        due("1's is SAFE, and 2's behind it waits", x.about(0, 17), 2);
    }

    private static void unclearUnordered() {
        ViewHall x = formed(3, 30);
        x.send(2, FIFO, 1);
        carry(x, DATA, 2, 1);
        x.send(1, AGREED, 16);
        carry(x, DATA, 1, 0);
        x.tick();
        due("no ORDER", got(x, 0, 0), 0);
        carry(x, DATA, 2, 0);
        due("ORDER", got(x, 0, 0), 1);
        due("DONE", done(x, 0, 1), 1);
    }

    private static void orderedOnce() {
        ViewHall x = formed(3, 30);
        x.send(1, SAFE, 16);
        x.send(2, SAFE, 16);
        carry(x, DATA, 1, 0);
        carry(x, DATA, 2, 0);
        due("ORDERs", got(x, 0, 0), 2);
        for (int i = 0; i < 8; i++) {
            x.tick();
        }
        due("ORDERs", got(x, 0, 0), 2);
        due("ORDERS", x.about(0, 17), 2);
        // The next of 1's is in no entry, though an entry names 1.
        x.send(1, SAFE, 16);
        carry(x, DATA, 1, 0);
        due("it is not the front", got(x, 0, 0), 2);
    }

    // ---- receiving

    private static void dataWhenNotOpen() {
        ViewHall x = lacking();
        due("MODE of 0", x.about(0, 10), 1);
        x.send(1, FIFO, 1);
        due("the same VIEW", x.packet(find(x, DATA, 1, 0), 5), x.about(0, 5));
        carry(x, DATA, 1, 0);
        due("GOT", got(x, 0, 1), 0);
        due("it is OPEN to 2", x.about(2, 10), 0);
        carry(x, DATA, 1, 2);
        due("GOT", got(x, 2, 1), 1);
    }

    private static void dataOfElderView() {
        ViewHall x = formed(3, 30);
        x.send(2, FIFO, 5);
        x.send(2, FIFO, 6);
        x.leave(2);
        carry(x, BYE, 2, 0);
        x.tick();
        replyAll(x);
        carry(x, CUT, 0, 1);
        carry(x, READY, 1, 0);
        due("MEMBERS of 0", x.about(0, 7), 3);
        int events = x.about(0, 4);
        carry(x, DATA, 2, 0);
        due("GOT", got(x, 0, 2), 0);
        due("events", x.about(0, 4), events);
        due("but its sender is heard", x.about(0, 11), 7);
    }

    private static void helloBody() {
        ViewHall x = formed(3, 30);
        x.send(1, FIFO, 0);
        x.send(1, AGREED, 0);
        x.send(0, FIFO, 0);
        carry(x, DATA, 0, 1);
        tickTo(x, 2);
        dueAll("HELLO", body(x, find(x, HELLO, 1, 0), 7), 1, 1, 0, 1, 2, 0, 0);
    }

    private static void helloWhenNotOpen() {
        ViewHall x = lacking();
        due("QGOT", x.stream(0, 3, 3, 1), 0);
        x.tick();
        due("MODE of 0", x.about(0, 10), 1);
        carry(x, HELLO, 1, 0);
        due("QGOT", x.stream(0, 3, 3, 1), 2);
        due("QDONE", x.stream(0, 2, 3, 1), 2);
    }

    // ---- states

    private static ViewHall alone() {
        ViewHall x = new ViewHall();
        x.join(1);
        return x;
    }

    private static int[] state(ViewHall x, int p) {
        return new int[] {x.about(p, 18), x.about(p, 19), x.about(p, 20), x.about(p, 21), x.about(p, 22), x.about(p, 23)};
    }

    private static void stateAtFirst() {
        dueAll("STATE", state(alone(), 1), 0, -1, 0, 0, 0, 0);
    }

    private static void cellSet() {
        ViewHall x = alone();
        for (int c = 0; c < 4; c++) {
            x.send(1, AGREED, (c + 5) << 4 | c << 2);
        }
        dueAll("STATE", state(x, 1), 4, -1, 5, 6, 7, 8);
        x.send(1, SAFE, -1 << 4 | 3 << 2);
        x.send(1, SAFE, 0);
        dueAll("STATE", state(x, 1), 6, -1, 0, 6, 7, -1);
    }

    private static void cellAdded() {
        ViewHall x = alone();
        for (int c = 0; c < 4; c++) {
            x.send(1, SAFE, (c + 5) << 4 | c << 2 | 1);
            x.send(1, SAFE, -1 << 4 | c << 2 | 1);
        }
        dueAll("STATE", state(x, 1), 8, -1, 4, 5, 6, 7);
        int most = Integer.MAX_VALUE >> 4;
        int least = Integer.MIN_VALUE >> 4;
        ViewHall y = alone();
        for (int i = 0; i < 16; i++) {
            y.send(1, AGREED, most << 4 | 1);
            y.send(1, AGREED, least << 4 | 1 << 2 | 1);
        }
        due("the last that is not too large", y.about(1, 20), Integer.MAX_VALUE - 15);
        due("the least of all", y.about(1, 21), Integer.MIN_VALUE);
        y.send(1, AGREED, 15 << 4 | 1);
        due("the greatest of all", y.about(1, 20), Integer.MAX_VALUE);
        y.send(1, AGREED, 1 << 4 | 1);
        due("one more", y.about(1, 20), Integer.MIN_VALUE);
        y.send(1, AGREED, -1 << 4 | 1 << 2 | 1);
        due("one less", y.about(1, 21), Integer.MAX_VALUE);
    }

    /** 0 and 1 in a view; each message is delivered to both before the next one is sent. */
    private static void ordered(ViewHall x, int p, int value) {
        x.send(p, AGREED, value);
        x.go(8, 1, 0);
    }

    private static void ownerClaimed() {
        ViewHall x = formed(2, 30);
        ordered(x, 0, 2);
        due("the least process", x.about(1, 19), 0);
        ordered(x, 1, 2);
        due("there is one", x.about(1, 19), 0);
        due("there is one", x.about(0, 19), 0);
        ViewHall y = formed(6, 30);
        y.send(5, AGREED, 2 | 9 << 4 | 1 << 2);
        y.go(8, 1, 0);
        dueAll("the greatest process, no cell", state(y, 0), 1, 5, 0, 0, 0, 0);
    }

    private static void ownerGone() {
        ViewHall x = formed(2, 30);
        ordered(x, 0, 3);
        due("there is none", x.about(0, 19), -1);
        ordered(x, 1, 2);
        ordered(x, 0, 3);
        due("another is it", x.about(0, 19), 1);
        ordered(x, 1, 3);
        due("it is it", x.about(0, 19), -1);
        ordered(x, 0, 2);
        due("the next one", x.about(1, 19), 0);
        due("APPLIED", x.about(1, 18), 5);
    }

    private static void stateByOrdered() {
        ViewHall x = alone();
        for (int value = 16; value < 20; value++) {
            x.send(1, FIFO, value);
            x.send(1, CAUSAL, value);
        }
        dueAll("STATE", state(x, 1), 0, -1, 0, 0, 0, 0);
        x.send(1, AGREED, 16);
        dueAll("STATE", state(x, 1), 1, -1, 1, 0, 0, 0);
        x.send(1, SAFE, 32);
        dueAll("STATE", state(x, 1), 2, -1, 2, 0, 0, 0);
    }

    private static void stateOfExtremes() {
        ViewHall x = alone();
        x.send(1, AGREED, 2);
        x.send(1, AGREED, Integer.MIN_VALUE);
        dueAll("the least value", state(x, 1), 2, 1, Integer.MIN_VALUE >> 4, 0, 0, 0);
        x.send(1, AGREED, Integer.MAX_VALUE);
        dueAll("the greatest value", state(x, 1), 3, -1, Integer.MIN_VALUE >> 4, 0, 0, 0);
        x.send(1, AGREED, Integer.MAX_VALUE - 3);
        dueAll("the greatest that sets", state(x, 1), 4, -1, Integer.MIN_VALUE >> 4, 0, 0, Integer.MAX_VALUE >> 4);
        x.send(1, AGREED, 2);
        x.send(1, AGREED, -1);
        due("-1 gives it back", x.about(1, 19), -1);
    }
}
