/** The terms 1, 3 and 4: in which order steps follow one another, and which of two things a step goes by. */
public final class StepsTest extends Checks {
    public static void main(String[] args) {
        hearing();
        working();
        turns();
        changes();
        finish();
    }

    private static void hearing() {
        test("KNOWN as this packet has them, whatever its kind", StepsTest::knownByData);
        test("KNOWN as this packet has them: a BYE", StepsTest::knownByBye);
        test("COUNTER becomes the number of each packet's PROMISE: a BYE's", StepsTest::counterByBye);
        test("the set that it reaches is not S", StepsTest::reachedBesideAttempt);
        test("installing makes nobody heard", StepsTest::installHearsNobody);
        test("installing leaves the KNOWN PROMISE as it is", StepsTest::installKnowsNothing);
    }

    private static void working() {
        test("again and again the front of the least u", StepsTest::leastAgain);
        test("an ORDER is posted when none can be passed", StepsTest::passesAheadOfOrder);
        test("and goes on as before, ahead of the next ORDER", StepsTest::passesBetweenOrders);
        test("STABLE is the least DONE, not the least GOT", StepsTest::stableByDone);
        test("A view ENDS: again and again the front of the least u", StepsTest::leastAsViewEnds);
    }

    private static void turns() {
        test("all that are IN have their TURN, one behind the other", StepsTest::wholeTurns);
        test("a. the PROMISE of one that is not in S", StepsTest::promiseOfAnother);
        test("b. it is not OPEN, though E is MEMBERS", StepsTest::notOpenAlone);
        test("b. is ahead of c and d", StepsTest::changeAheadOfHello);
        test("c. CUT, then FILL, then HELLO", StepsTest::cutsAheadOfFills);
        test("c. DATA, then INSTALL, then HELLO", StepsTest::dataAheadOfInstalls);
        test("c. DATA again to those with QDONE below the number, whatever their QGOT", StepsTest::dataByDone);
        test("c. DATA again with the PAST that it had", StepsTest::dataWithItsPast);
    }

    private static void changes() {
        test("PROPOSE above, to one with an attempt in phase 2", StepsTest::promisesInPhaseTwo);
        test("REPLY: with the packet's VIEW, not the KNOWN one", StepsTest::replyWithItsView);
        test("r CUTS: to q in rising order, then r TAKES its own", StepsTest::cutsAheadOfOwn);
        test("CUT: in MODE 2 it is not taken again", StepsTest::cutOnce);
        test("To FILL: the least w in T, not the stream's own", StepsTest::fillNotByOwn);
        test("To FILL: by HAVE, not by GOT", StepsTest::fillByHave);
        test("To LOOK: no READY to itself", StepsTest::noReadyToItself);
        test("INSTALL to all others in S in rising order", StepsTest::installsRise);
    }

    /** Each packet of the row in three digits: kind, who sent it, whom it is for. */
    private static int[] row(ViewHall x) {
        int[] row = new int[x.look(3)];
        for (int k = 0; k < row.length; k++) {
            row[k] = x.packet(k, 0) * 100 + x.packet(k, 1) * 10 + x.packet(k, 2);
        }
        return row;
    }

    // ---- hearing

    private static void knownByData() {
        ViewHall x = installing();
        carry(x, INSTALL, 0, 1);
        x.send(1, FIFO, 5);
        carry(x, DATA, 1, 0);
        loseAll(x);
        x.tick();
        due("TIME", x.look(2), 4);
        due("INSTALL to 1, whose DATA came", find(x, INSTALL, 0, 1), -1);
        due("INSTALL to 2, whose READY came last", find(x, INSTALL, 0, 2) >= 0 ? 1 : 0, 1);
    }

    /** 1 has installed 0's view and left; of it come the BYE, or not, and a HELLO of an elder view. */
    private static int installsAfter(boolean bye) {
        ViewHall x = proposing(2);
        x.tick();
        replyAll(x);
        carry(x, CUT, 0, 1);
        carry(x, READY, 1, 0);
        carry(x, INSTALL, 0, 1);
        x.leave(1);
        if (bye) {
            carry(x, BYE, 1, 0);
            due("reached after the BYE", x.about(0, 11), 1);
        }
        carry(x, HELLO, 1, 0);
        due("reached after the elder HELLO", x.about(0, 11), 3);
        tickTo(x, 4);
        due("TIME", x.look(2), 8);
        due("MODE of 0", mode(x, 0), 0);
        due("MEMBERS of 0", x.about(0, 7), 3);
        return count(x, INSTALL);
    }

    private static void knownByBye() {
        due("INSTALLs, the BYE lost", installsAfter(false), 1);
        due("INSTALLs, the BYE come", installsAfter(true), 0);
    }

    private static void counterByBye() {
        ViewHall x = formed(4, 30);
        leaveLast(x);
        int number = x.about(0, 8);
        carry(x, PROPOSE, 0, 2);
        x.leave(2);
        due("COUNTER of 1", x.about(1, 2), number - 1);
        carry(x, BYE, 2, 1);
        due("COUNTER of 1", x.about(1, 2), number);
        due("PROMISE of 1", x.about(1, 8), number - 1);
    }

    private static void reachedBesideAttempt() {
        ViewHall x = saidHello(3, 30);
        carry(x, HELLO, 1, 0);
        x.tick();
        carry(x, HELLO, 2, 0);
        due("reached", x.about(0, 11), 7);
        due("S", x.about(0, 13), 3);
    }

    private static void installHearsNobody() {
        ViewHall x = installing();
        carry(x, INSTALL, 0, 2);
        due("MEMBERS of 2", x.about(2, 7), 7);
        due("reached by 2", x.about(2, 11), 5);
    }

    /** 1 is ready, crashes and joins anew; its HELLO comes to 0 ahead of its READY. */
    private static void installKnowsNothing() {
        ViewHall x = proposing(2);
        replyAll(x);
        carry(x, CUT, 0, 1);
        x.crash(1);
        x.join(1);
        x.tick();
        carryLast(x, HELLO, 1, 0);
        carry(x, READY, 1, 0);
        due("MODE of 0", mode(x, 0), 0);
        due("MEMBERS of 0", x.about(0, 7), 3);
        due("reached by 0", x.about(0, 11), 3);
        x.tick();
        due("phase of 0", phase(x, 0), 1);
        promise(x, 0, 4, 0);
    }

    // ---- working

    /** At 0: a CAUSAL of 1 waits for the first of 2's two, which come in the other order. */
    private static void leastAgain() {
        ViewHall x = formed(3, 30);
        x.send(2, FIFO, 7);
        x.send(2, FIFO, 8);
        carryData(x, 2, 1, 1);
        x.send(1, CAUSAL, 9);
        carry(x, DATA, 1, 0);
        carryData(x, 2, 0, 2);
        int events = x.about(0, 4);
        carryData(x, 2, 0, 1);
        dueAll("first", event(x, 0, events), 2, 2, 1, FIFO, 7);
        dueAll("second", event(x, 0, events + 1), 2, 1, 1, CAUSAL, 9);
        dueAll("third", event(x, 0, events + 2), 2, 2, 2, FIFO, 8);
    }

    /** At 0, the head, a message of each of 1 and 2 waits for one of 3, which comes now. */
    private static ViewHall released(int sortOfTwo) {
        ViewHall x = formed(4, 30);
        x.send(3, FIFO, 7);
        carry(x, DATA, 3, 1);
        carry(x, DATA, 3, 2);
        x.send(1, AGREED, 16);
        x.send(2, sortOfTwo, 32);
        carry(x, DATA, 1, 0);
        carry(x, DATA, 2, 0);
        due("GOT of the head's", got(x, 0, 0), 0);
        carry(x, DATA, 3, 0);
        return x;
    }

    private static void passesAheadOfOrder() {
        ViewHall x = released(CAUSAL);
        due("GOT of the head's", got(x, 0, 0), 1);
        dueAll("ORDER", body(x, find(x, DATA, 0, 1), 7), 1, ORDER, 8 + 1, 0, 0, 1, 1);
        int events = x.about(0, 4);
        dueAll("the last but one", event(x, 0, events - 2), 2, 2, 1, CAUSAL, 32);
        dueAll("the last", event(x, 0, events - 1), 2, 1, 1, AGREED, 16);
    }

    private static void passesBetweenOrders() {
        ViewHall x = released(AGREED);
        due("GOT of the head's", got(x, 0, 0), 2);
        dueAll("the first ORDER", body(x, find(x, DATA, 0, 1), 7), 1, ORDER, 8 + 1, 0, 0, 0, 1);
        dueAll("the second ORDER", body(x, findLast(x, DATA, 0, 1), 7), 2, ORDER, 8 + 2, 1, 1, 0, 1);
    }

    /** 1 has 0's SAFE and its ORDER and has told so; of 0 it has heard nothing, so it has passed none. */
    private static ViewHall gotNotDone() {
        ViewHall x = formed(2, 30);
        x.send(0, SAFE, 16);
        carry(x, DATA, 0, 1);
        carry(x, DATA, 0, 1);
        tickTo(x, 2);
        carry(x, HELLO, 1, 0);
        due("QGOT", x.stream(0, 3, 0, 1), 2);
        due("QDONE", x.stream(0, 2, 0, 1), 0);
        due("DONE", done(x, 0, 0), 2);
        return x;
    }

    private static void stableByDone() {
        due("STABLE", gotNotDone().about(0, 16), 0);
    }

    /** 0 knows 2's SAFE, then 1's, as ordered, and a FIFO of 2 behind the first; then it is alone. */
    private static void leastAsViewEnds() {
        ViewHall x = formed(3, 30);
        x.send(2, SAFE, 32);
        x.send(2, FIFO, 7);
        x.send(1, SAFE, 16);
        carryData(x, 2, 0, 1);
        carryData(x, 2, 0, 2);
        carryData(x, 1, 0, 1);
        due("ORDERS", x.about(0, 17), 2);
        int events = x.about(0, 4);
        for (int p = 1; p <= 2; p++) {
            x.leave(p);
            carry(x, BYE, p, 0);
        }
        x.tick();
        due("events", x.about(0, 4), events + 4);
        dueAll("first", event(x, 0, events), 2, 2, 1, SAFE, 32);
        dueAll("second", event(x, 0, events + 1), 2, 1, 1, SAFE, 16);
        dueAll("third", event(x, 0, events + 2), 2, 2, 2, FIFO, 7);
    }

    // ---- turns

    /** 2 begins an attempt at TIME 6, behind what 0 and 1 say then. */
    private static void wholeTurns() {
        ViewHall x = saidHello(4, 30);
        for (int time = 3; time <= 5; time++) {
            x.tick();
        }
        carry(x, HELLO, 3, 2);
        loseAll(x);
        x.tick();
        dueAll("at TIME 6", row(x), 1, 2, 3, 10, 12, 13, 223, 20, 21, 23, 30, 31, 32);
    }

    /** {0, 1} and {2, 3} have lost one another; 2, which 0 reaches no more, has promised an ID above 0's. */
    private static void promiseOfAnother() {
        ViewHall x = formed(4, 6);
        int number = x.about(0, 5);
        x.part(9 + 27);
        while (x.look(2) < 48) {
            hellos(x);
        }
        promise(x, 0, number + 1, 0);
        promise(x, 2, number + 1, 2);
        x.leave(2);
        x.part(0);
        carry(x, BYE, 2, 0);
        due("reached by 0", x.about(0, 11), 3);
        x.tick();
        promise(x, 0, number + 1, 0);
        due("phase of 0", phase(x, 0), 1);
    }

    /** 1, alone in its view, has promised to 0, which is silent since. */
    private static void notOpenAlone() {
        ViewHall x = saidHello(2, 6);
        carry(x, HELLO, 1, 0);
        x.tick();
        carry(x, PROPOSE, 0, 1);
        x.crash(0);
        for (int time = 4; time <= 9; time++) {
            x.tick();
            due("MODE at " + time, mode(x, 1), 1);
        }
        due("reached", x.about(1, 11), 3);
        x.tick();
        due("reached", x.about(1, 11), x.about(1, 7));
        due("MODE", mode(x, 1), 0);
        promise(x, 1, 3, 1);
        due("VIEW", x.about(1, 5), 3);
    }

    private static void changeAheadOfHello() {
        ViewHall x = formed(2, 30);
        x.tick();
        int number = x.about(0, 5);
        x.leave(1);
        carry(x, BYE, 1, 0);
        x.tick();
        due("TIME", x.look(2), 42);
        dueAll("HELLO", head(x, find(x, HELLO, 0, 1)), HELLO, 0, 1, 42, x.about(0, 3), number + 1, 0, number + 1, 0);
    }

    private static void cutsAheadOfFills() {
        ViewHall x = partlyLacking();
        tickTo(x, 4);
        dueAll("at TIME 44", row(x), 401, 402, 502, 1, 2, 3, 10, 12, 13, 20, 21, 23);
    }

    private static void dataAheadOfInstalls() {
        ViewHall x = installing();
        x.send(0, FIFO, 5);
        loseAll(x);
        x.tick();
        dueAll("at TIME 4", row(x), 101, 102, 701, 702, 1, 2, 10, 12, 20, 21);
    }

    private static void dataByDone() {
        ViewHall x = gotNotDone();
        tickTo(x, 4);
        loseOthers(x, DATA);
        dueAll("DATA", row(x), 101, 101);
        dueAll("numbers", new int[] {x.packet(0, 9), x.packet(1, 9)}, 1, 2);
    }

    private static void dataWithItsPast() {
        ViewHall x = formed(3, 30);
        x.send(0, FIFO, 5);
        x.send(0, FIFO, 6);
        int[] first = body(x, find(x, DATA, 0, 1), 6);
        int[] second = body(x, findLast(x, DATA, 0, 1), 6);
        x.send(1, FIFO, 7);
        carry(x, DATA, 1, 0);
        due("DONE", done(x, 0, 1), 1);
        tickTo(x, 4);
        dueAll("the first", body(x, find(x, DATA, 0, 1), 6), first);
        dueAll("the second", body(x, findLast(x, DATA, 0, 1), 6), second);
    }

    // ---- changes

    private static void promisesInPhaseTwo() {
        ViewHall x = rivals();
        carry(x, PROPOSE, 1, 2);
        carry(x, REPLY, 2, 1);
        due("phase of 1", phase(x, 1), 2);
        due("MODE of 1", mode(x, 1), 3);
        carry(x, PROPOSE, 0, 1);
        due("phase of 1", phase(x, 1), 0);
        due("MODE of 1", mode(x, 1), 1);
        promise(x, 1, 3, 0);
        due("REPLY", find(x, REPLY, 1, 0) >= 0 ? 1 : 0, 1);
    }

    /** Of three in a view 0 and 1 hear no more of each other, and each proposes to 2; TIME is 48. */
    private static ViewHall twoProposers() {
        ViewHall x = formed(3, 6);
        while (x.look(2) < 48) {
            loseAll(x);
            x.tick();
            for (int p = 0; p <= 1 && x.look(2) % 2 == 0; p++) {
                carry(x, HELLO, 2, p);
                carry(x, HELLO, p, 2);
            }
        }
        due("S of 0", x.about(0, 13), 5);
        due("S of 1", x.about(1, 13), 6);
        return x;
    }

    /** 2 replies to 0, then makes a view with 1; what it says from there comes to 0 ahead of the reply. */
    private static void replyWithItsView() {
        ViewHall x = twoProposers();
        carry(x, PROPOSE, 0, 2);
        carry(x, PROPOSE, 1, 2);
        carry(x, REPLY, 2, 1);
        carry(x, CUT, 1, 2);
        carry(x, READY, 2, 1);
        carry(x, INSTALL, 1, 2);
        due("MEMBERS of 2", x.about(2, 7), 6);
        x.tick();
        x.tick();
        carryLast(x, HELLO, 2, 0);
        carry(x, REPLY, 2, 0);
        due("phase of 0", phase(x, 0), 2);
        due("T, as 2 replied in the view of three", x.packet(find(x, CUT, 0, 2), 9), 5);
    }

    private static void cutsAheadOfOwn() {
        ViewHall x = partlyLacking();
        dueAll("as 0 cuts", row(x), 401, 402, 502);
    }

    /** 1 has what 0 and 2 lack and lacks what 0 has. */
    private static void cutOnce() {
        ViewHall x = formed(4, 30);
        x.send(3, FIFO, 1);
        x.send(0, FIFO, 2);
        carry(x, DATA, 3, 1);
        leaveLast(x);
        replyAll(x);
        carry(x, CUT, 0, 1);
        due("MODE of 1", mode(x, 1), 2);
        dueAll("FILLs", new int[] {find(x, FILL, 1, 0) >= 0 ? 1 : 0, find(x, FILL, 1, 2) >= 0 ? 1 : 0}, 1, 1);
        tickTo(x, 4);
        nothingComesOf(x, CUT, 0, 1);
    }

    private static void fillNotByOwn() {
        ViewHall x = formed(4, 30);
        x.send(2, FIFO, 5);
        carry(x, DATA, 2, 0);
        leaveLast(x);
        replyAll(x);
        due("FILL of 0", find(x, FILL, 0, 1) >= 0 ? 1 : 0, 1);
        carry(x, CUT, 0, 2);
        due("MODE of 2", mode(x, 2), 3);
        due("FILL of 2", find(x, FILL, 2, 1), -1);
        tickTo(x, 4);
        due("FILL of 0", find(x, FILL, 0, 1) >= 0 ? 1 : 0, 1);
        due("FILL of 2", find(x, FILL, 2, 1), -1);
    }

    private static void fillByHave() {
        ViewHall x = lacking();
        replyAll(x);
        carry(x, CUT, 0, 1);
        carry(x, FILL, 1, 0);
        carry(x, FILL, 1, 0);
        due("MODE of 0, which has all now", mode(x, 0), 3);
        tickTo(x, 4);
        loseOthers(x, FILL);
        dueAll("FILLs, still of 1 and still to 0", row(x), 510, 512, 510, 512);
    }

    /** 1 waits for a FILL of its own attempt when it hears 0 again, which ends the attempt. */
    private static void noReadyToItself() {
        ViewHall x = formed(4, 30);
        x.send(3, FIFO, 5);
        carry(x, DATA, 3, 2);
        tickTo(x, 2);
        x.leave(0);
        x.leave(3);
        carry(x, BYE, 0, 1);
        carry(x, BYE, 3, 1);
        x.tick();
        due("S of 1", x.about(1, 13), 6);
        carry(x, PROPOSE, 1, 2);
        carry(x, REPLY, 2, 1);
        carry(x, CUT, 1, 2);
        due("MODE of 1", mode(x, 1), 2);
        carry(x, HELLO, 0, 1);
        x.tick();
        due("phase of 1", phase(x, 1), 0);
        int sent = x.look(4);
        carry(x, FILL, 2, 1);
        due("MODE of 1", mode(x, 1), 3);
        due("sent", x.look(4), sent);
        due("ready", x.about(1, 15), 0);
    }

    private static void installsRise() {
        ViewHall x = installing();
        loseOthers(x, INSTALL);
        dueAll("INSTALLs", row(x), 701, 702);
    }
}
