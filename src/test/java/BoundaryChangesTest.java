/** The term 4, changes: for each sentence that names an edge a test of its own. */
public final class BoundaryChangesTest extends Checks {
    public static void main(String[] args) {
        promises();
        attempts();
        turns();
        proposals();
        otherPackets();
        cuts();
        installs();
        ends();
        finish();
    }

    private static void promises() {
        test("To PROMISE: an elder attempt that it has is given up", BoundaryChangesTest::promiseEndsAttempt);
        test("To PROMISE: what is behind a gap it has no more", BoundaryChangesTest::promiseDropsBehindGap);
        test("To PROMISE: behind a gap, whatever its number", BoundaryChangesTest::promiseDropsAnyNumber);
    }

    private static void attempts() {
        test("a. given up if p is not the least in E", BoundaryChangesTest::notLeast);
        test("a. or E is not S: one more", BoundaryChangesTest::oneMore);
        test("a. or E is not S: one less", BoundaryChangesTest::oneLess);
        test("a. or a KNOWN PROMISE is above the attempt's ID", BoundaryChangesTest::knownAbove);
        test("a. a KNOWN PROMISE below the attempt's ID", BoundaryChangesTest::knownBelow);
        test("a. otherwise it stands", BoundaryChangesTest::attemptStands);
        test("b. is the least in E", BoundaryChangesTest::onlyLeastBegins);
        test("b. it is not OPEN", BoundaryChangesTest::beginsWhenNotOpen);
        test("b. E is not MEMBERS: fewer", BoundaryChangesTest::beginsByFewer);
        test("b. E is not MEMBERS: more", BoundaryChangesTest::beginsByMore);
        test("b. the KNOWN PROMISE of a member is not VIEW", BoundaryChangesTest::beginsByKnown);
        test("b. none of these holds", BoundaryChangesTest::beginsNot);
        test("b. COUNTER grows by 1; S being E; p has replied", BoundaryChangesTest::attemptBegins);
        test("b. if all in S have replied, p CUTS", BoundaryChangesTest::aloneAtOnce);
    }

    private static void turns() {
        test("c. a multiple of 4: PROPOSE to all that have not replied", BoundaryChangesTest::proposeAgain);
        test("c. an attempt that begins at a multiple of 4", BoundaryChangesTest::proposeTwice);
        test("c. in phase 2 CUT (as before) to all that are not ready", BoundaryChangesTest::cutAgain);
        test("c. In MODE 2 and 3 it FILLS", BoundaryChangesTest::fillAgain);
        test("c. In MODE 0 and 1 it does not fill", BoundaryChangesTest::fillNoMore);
        test("c. DATA from STABLE + 1, to those with QDONE below the number", BoundaryChangesTest::dataAgain);
        test("c. INSTALL (as before) to those whose KNOWN VIEW is not its VIEW", BoundaryChangesTest::installAgain);
        test("c. if it made its view by an attempt", BoundaryChangesTest::onlyMakerInstalls);
        test("c. In MODE 0: DATA of one that is not OPEN", BoundaryChangesTest::noDataWhenNotOpen);
        test("c. In MODE 0: INSTALL of one that is not OPEN", BoundaryChangesTest::noInstallWhenNotOpen);
        test("d. If TIME is even: HELLO", BoundaryChangesTest::helloWhenEven);
        test("d. to all other processes (OUT ones, too)", BoundaryChangesTest::helloToAll);
        test("e. In MODE 0 it works", BoundaryChangesTest::noWorkWhenNotOpen);
    }

    private static void proposals() {
        test("PROPOSE: if I is above r's PROMISE", BoundaryChangesTest::proposalAbove);
        test("PROPOSE: If I is r's PROMISE and its MODE 1, just the REPLY", BoundaryChangesTest::proposalAgain);
        test("PROPOSE: I is r's PROMISE in MODE 2", BoundaryChangesTest::proposalWhenCut);
        test("PROPOSE: I is r's PROMISE in MODE 3", BoundaryChangesTest::proposalWhenWhole);
        test("PROPOSE: I is r's PROMISE in MODE 0", BoundaryChangesTest::proposalWhenOpen);
        test("PROPOSE: I is below r's PROMISE", BoundaryChangesTest::proposalBelow);
    }

    private static void otherPackets() {
        test("only if their PROMISE is r's: REPLY", BoundaryChangesTest::elderReply);
        test("only if their PROMISE is r's: CUT", BoundaryChangesTest::elderCut);
        test("only if their PROMISE is r's: FILL", BoundaryChangesTest::elderFill);
        test("only if their PROMISE is r's: READY", BoundaryChangesTest::elderReady);
        test("only if their PROMISE is r's: INSTALL", BoundaryChangesTest::elderInstall);
        test("and r is not OPEN: INSTALL", BoundaryChangesTest::installWhenOpen);
        test("and r is not OPEN: CUT", BoundaryChangesTest::cutWhenOpen);
        test("and r is not OPEN: READY", BoundaryChangesTest::readyWhenOpen);
    }

    private static void cuts() {
        test("REPLY: if all in S have, r CUTS", BoundaryChangesTest::lastReply);
        test("REPLY: s not replied", BoundaryChangesTest::replyTwice);
        test("REPLY: r's attempt being in phase 1: in phase 2", BoundaryChangesTest::replyInPhaseTwo);
        test("REPLY: r's attempt being in phase 1: none", BoundaryChangesTest::replyWithoutAttempt);
        test("T being those in S that replied with the same VIEW", BoundaryChangesTest::teams);
        test("CUT: in MODE 1 r takes it", BoundaryChangesTest::cutTaken);
        test("CUT: in MODE 2", BoundaryChangesTest::cutWhenCut);
        test("CUT: in MODE 3 r sends READY again", BoundaryChangesTest::cutWhenWhole);
        test("To FILL: HAVE t u below k, GOAL u not, the least w in T", BoundaryChangesTest::fillEdges);
        test("To LOOK: if GOT u is GOAL u for all u", BoundaryChangesTest::lookForAll);
        test("its END is what STATE would be", BoundaryChangesTest::endIsThought);
        test("FILL, in MODE 1", BoundaryChangesTest::fillWhenPromised);
        test("FILL, in MODE 3", BoundaryChangesTest::fillWhenWhole);
    }

    private static void installs() {
        test("READY: s not ready", BoundaryChangesTest::readyTwice);
        test("READY: r's attempt being in phase 2: none", BoundaryChangesTest::readyWithoutAttempt);
        test("READY ahead of its own", BoundaryChangesTest::readyAheadOfOwn);
        test("the greatest APPLIED is TOLD", BoundaryChangesTest::greatestTold);
        test("of these the least process", BoundaryChangesTest::leastOfGreatest);
        test("the END of that one in S: not of one in an elder attempt's", BoundaryChangesTest::toldInSet);
        test("READY (APPLIED, OWNER, CELLS), INSTALL (S, APPLIED, OWNER, CELLS)", BoundaryChangesTest::wholeState);
        test("the OWNER -1 if it is not in S", BoundaryChangesTest::ownerNotIn);
        test("the OWNER stays if it is in S", BoundaryChangesTest::ownerIn);
        test("VIEW is PROMISE, MEMBERS S, MODE 0", BoundaryChangesTest::installed);
    }

    private static void ends() {
        test("A view ENDS: SAFE as AGREED", BoundaryChangesTest::safeAtEnd);
        test("A view ENDS: no ORDER is posted", BoundaryChangesTest::noOrderAtEnd);
        test("A view ENDS: ORDERS becomes empty", BoundaryChangesTest::ordersEmptied);
        test("A view ENDS: CAUSAL that is not clear", () -> unclearAtEnd(CAUSAL, false));
        test("A view ENDS: AGREED that is not clear", () -> unclearAtEnd(AGREED, false));
        test("A view ENDS: SAFE that is not clear", () -> unclearAtEnd(SAFE, false));
        test("A view ENDS: FIFO that is not clear", () -> unclearAtEnd(FIFO, true));
        test("A view ENDS: the front of the least u", BoundaryChangesTest::leastAtEnd);
    }

    // ---- to promise

    private static void promiseEndsAttempt() {
        ViewHall x = rivals();
        carry(x, PROPOSE, 0, 1);
        due("phase of 1", phase(x, 1), 0);
        due("S of 1", x.about(1, 13), 0);
        due("replied to 1", x.about(1, 14), 0);
        promise(x, 1, 3, 0);
        due("MODE of 1", mode(x, 1), 1);
    }

    private static void promiseDropsBehindGap() {
        ViewHall x = formed(4, 30);
        x.send(3, FIFO, 1);
        x.send(3, FIFO, 2);
        carry(x, DATA, 3, 1);
        carry(x, DATA, 3, 1);
        x.deliver(findLast(x, DATA, 3, 2));
        due("GOT: the second only", x.stream(2, 0, 3, 0), 0);
        leaveLast(x);
        replyAll(x);
        carry(x, CUT, 0, 1);
        carry(x, FILL, 1, 2);
        due("GOT after the first", x.stream(2, 0, 3, 0), 1);
        carry(x, FILL, 1, 2);
        due("GOT after both", x.stream(2, 0, 3, 0), 2);
    }

    /** 2 lacks 0's last but one message and has the last; 1 has both and proposes. */
    private static void promiseDropsAnyNumber() {
        for (int last = 2; last <= 18; last++) {
            ViewHall x = formed(3, 30);
            for (int i = 1; i <= last - 2; i++) {
                x.send(0, FIFO, i);
                carry(x, DATA, 0, 1);
                carry(x, DATA, 0, 2);
                hellos(x);
            }
            x.send(0, FIFO, last - 1);
            due("send", x.send(0, FIFO, last), last);
            carry(x, DATA, 0, 1);
            carry(x, DATA, 0, 1);
            carryLast(x, DATA, 0, 2);
            x.leave(0);
            carry(x, BYE, 0, 1);
            loseAll(x);
            x.tick();
            carry(x, PROPOSE, 1, 2);
            carry(x, REPLY, 2, 1);
            due("FILLs", count(x, FILL), 2);
            carry(x, FILL, 1, 2);
            due("GOT without the last", x.stream(2, 0, 0, 0), last - 1);
            carry(x, FILL, 1, 2);
            due("GOT", x.stream(2, 0, 0, 0), last);
        }
    }

    // ---- a

    private static void notLeast() {
        ViewHall x = saidHello(3, 30);
        carry(x, HELLO, 2, 1);
        x.tick();
        due("phase of 1", phase(x, 1), 1);
        carry(x, HELLO, 0, 1);
        due("phase of 1 ahead of its turn", phase(x, 1), 1);
        x.tick();
        due("phase of 1", phase(x, 1), 0);
        due("MODE of 1", mode(x, 1), 1);
        promise(x, 1, 2, 1);
        due("PROPOSEs of 1: the one", find(x, PROPOSE, 1, 2), findLast(x, PROPOSE, 1, 2));
    }

    private static void oneMore() {
        ViewHall x = saidHello(3, 30);
        carry(x, HELLO, 1, 0);
        x.tick();
        due("S", x.about(0, 13), 3);
        promise(x, 0, 2, 0);
        carry(x, HELLO, 2, 0);
        x.tick();
        due("S", x.about(0, 13), 7);
        promise(x, 0, 3, 0);
    }

    private static void oneLess() {
        ViewHall x = saidHello(3, 6);
        carry(x, HELLO, 1, 0);
        carry(x, HELLO, 2, 0);
        x.tick();
        due("S", x.about(0, 13), 7);
        x.crash(2);
        tickTo(x, 4);
        carry(x, HELLO, 1, 0);
        tickTo(x, 8);
        due("heard 6 ticks ago", x.about(0, 13), 7);
        promise(x, 0, 2, 0);
        x.tick();
        due("heard 7 ticks ago", x.about(0, 13), 3);
        promise(x, 0, 3, 0);
    }

    private static void knownAbove() {
        // Both at number 2: of 1's (2, 1) is above (2, 0).
        ViewHall x = saidHello(3, 30);
        carry(x, HELLO, 1, 0);
        carry(x, HELLO, 2, 1);
        loseAll(x);
        x.tick();
        promise(x, 0, 2, 0);
        promise(x, 1, 2, 1);
        x.tick();
        promise(x, 0, 2, 0);
        carry(x, HELLO, 1, 0);
        x.tick();
        promise(x, 0, 3, 0);
        due("S", x.about(0, 13), 3);
        due("phase", phase(x, 0), 1);
    }

    private static void knownBelow() {
        // 2 has promised (2, 0), which is below 1's (2, 1).
        ViewHall x = saidHello(3, 30);
        carry(x, HELLO, 2, 0);
        carry(x, HELLO, 2, 1);
        loseAll(x);
        x.tick();
        carry(x, PROPOSE, 0, 2);
        x.tick();
        int k = find(x, HELLO, 2, 1);
        due("the HELLO's PROMISE", x.packet(k, 7) * 8 + x.packet(k, 8), 16);
        x.deliver(k);
        x.tick();
        promise(x, 1, 2, 1);
        due("phase of 1", phase(x, 1), 1);
        // 2 replies, so its PROMISE is the attempt's ID itself.
        carry(x, PROPOSE, 1, 2);
        tickTo(x, 2);
        carry(x, HELLO, 2, 1);
        x.tick();
        promise(x, 1, 2, 1);
        due("phase of 1", phase(x, 1), 1);
    }

    private static void attemptStands() {
        ViewHall x = proposing(3);
        for (int i = 0; i < 29; i++) {
            loseAll(x);
            x.tick();
            promise(x, 0, 2, 0);
            due("phase", phase(x, 0), 1);
            due("COUNTER", x.about(0, 2), 2);
        }
    }

    // ---- b

    private static void onlyLeastBegins() {
        ViewHall x = saidHello(3, 30);
        carry(x, HELLO, 0, 1);
        carry(x, HELLO, 2, 1);
        x.tick();
        due("phase of 1, which reaches 0", phase(x, 1), 0);
        due("COUNTER of 1", x.about(1, 2), 1);
        due("MODE of 1", mode(x, 1), 0);
        // Not OPEN, but not the least either.
        ViewHall y = lacking();
        carry(y, PROPOSE, 0, 1);
        y.tick();
        due("MODE of 1", mode(y, 1), 1);
        due("phase of 1", phase(y, 1), 0);
    }

    /** 1 and 2 are a view of their own; 0 proposes to 1 and crashes, and only that 1 has promised stays of it. */
    private static void beginsWhenNotOpen() {
        ViewHall x = new ViewHall();
        x.begin(3, 6);
        x.join(1);
        x.join(2);
        x.go(40, 1, 0);
        loseAll(x);
        due("MEMBERS of 1", x.about(1, 7), 6);
        x.join(0);
        tickTo(x, 2);
        carry(x, HELLO, 1, 0);
        x.tick();
        carry(x, PROPOSE, 0, 1);
        int heard = x.look(2);
        x.crash(0);
        loseAll(x);
        due("MODE of 1", mode(x, 1), 1);
        while (x.look(2) < heard + 6) {
            x.tick();
            due("phase of 1", phase(x, 1), 0);
            if (find(x, HELLO, 2, 1) >= 0) {
                carry(x, HELLO, 2, 1);
            }
            loseAll(x);
        }
        due("reached by 1", x.about(1, 11), 7);
        int number = x.about(1, 8);
        x.tick();
        due("reached by 1", x.about(1, 11), 6);
        due("MEMBERS of 1", x.about(1, 7), 6);
        due("phase of 1", phase(x, 1), 1);
        promise(x, 1, number + 1, 1);
    }

    private static void beginsByFewer() {
        ViewHall x = formed(3, 30);
        x.tick();
        due("phase of 0", phase(x, 0), 0);
        x.leave(2);
        carry(x, BYE, 2, 0);
        x.tick();
        due("phase of 0", phase(x, 0), 1);
        due("S", x.about(0, 13), 3);
    }

    private static void beginsByMore() {
        ViewHall x = saidHello(2, 30);
        x.tick();
        due("phase of 0", phase(x, 0), 0);
        carry(x, HELLO, 1, 0);
        x.tick();
        due("phase of 0", phase(x, 0), 1);
        due("S", x.about(0, 13), 3);
    }

    private static void beginsByKnown() {
        ViewHall x = formed(3, 30);
        x.crash(2);
        x.join(2);
        tickTo(x, 2);
        due("reached by 0 is MEMBERS", x.about(0, 11), x.about(0, 7));
        due("MODE of 0", mode(x, 0), 0);
        x.tick();
        due("phase of 0", phase(x, 0), 0);
        carry(x, HELLO, 2, 0);
        due("reached by 0 is MEMBERS", x.about(0, 11), x.about(0, 7));
        x.tick();
        due("phase of 0", phase(x, 0), 1);
    }

    private static void beginsNot() {
        ViewHall x = formed(3, 6);
        int counter = x.about(0, 2);
        for (int i = 0; i < 30; i++) {
            hellos(x);
            x.tick();
            due("COUNTER", x.about(0, 2), counter);
            due("phase", phase(x, 0), 0);
        }
    }

    private static void attemptBegins() {
        ViewHall x = saidHello(4, 30);
        carry(x, HELLO, 1, 0);
        carry(x, HELLO, 3, 0);
        loseAll(x);
        x.tick();
        due("COUNTER", x.about(0, 2), 2);
        promise(x, 0, 2, 0);
        due("MODE", mode(x, 0), 1);
        due("phase", phase(x, 0), 1);
        due("S", x.about(0, 13), 11);
        due("replied", x.about(0, 14), 1);
        due("ready", x.about(0, 15), 0);
        due("packets", x.look(3), 2);
        due("for", x.packet(0, 2), 1);
        due("for", x.packet(1, 2), 3);
        dueAll("PROPOSE", body(x, 1, 37), java.util.Arrays.copyOf(new int[] {11}, 37));
    }

    private static void aloneAtOnce() {
        ViewHall x = formed(2, 30);
        x.send(0, SAFE, 2);
        due("APPLIED", x.about(0, 18), 0);
        x.leave(1);
        carry(x, BYE, 1, 0);
        loseAll(x);
        int number = x.about(0, 5);
        int counter = x.about(0, 2);
        int events = x.about(0, 4);
        due("tick", x.tick(), 0);
        due("COUNTER", x.about(0, 2), counter + 1);
        due("VIEW", x.about(0, 5), number + 1);
        due("MEMBERS", x.about(0, 7), 1);
        due("MODE", mode(x, 0), 0);
        due("phase", phase(x, 0), 0);
        dueAll("a delivery as the view ends", event(x, 0, events), 2, 0, 1, SAFE, 2);
        dueAll("the new view", event(x, 0, events + 1), 1, number + 1, 0, 1, 1);
        due("OWNER", x.about(0, 19), 0);
    }

    // ---- c

    private static void proposeAgain() {
        ViewHall x = lacking();
        carry(x, PROPOSE, 0, 1);
        carry(x, REPLY, 1, 0);
        for (int time = 42; time <= 49; time++) {
            loseAll(x);
            x.tick();
            due("TIME", x.look(2), time);
            due("PROPOSEs at " + time, count(x, PROPOSE), time % 4 == 0 ? 1 : 0);
        }
        tickTo(x, 4);
        int k = find(x, PROPOSE, 0, 2);
        due("S", x.packet(k, 9), 7);
        x.deliver(k);
        due("MODE of 2", mode(x, 2), 1);
    }

    private static void proposeTwice() {
        ViewHall x = formed(4, 30);
        for (int i = 0; i < 3; i++) {
            x.tick();
        }
        x.leave(3);
        carry(x, BYE, 3, 0);
        loseAll(x);
        x.tick();
        due("TIME", x.look(2), 44);
        loseOthers(x, PROPOSE);
        due("PROPOSEs", x.look(3), 4);
        for (int k = 0; k < 4; k++) {
            due("for", x.packet(k, 2), k % 2 + 1);
        }
    }

    private static void cutAgain() {
        ViewHall x = lacking();
        replyAll(x);
        int[] cut = body(x, find(x, CUT, 0, 2), 37);
        carry(x, CUT, 0, 1);
        carry(x, READY, 1, 0);
        due("ready", x.about(0, 15), 2);
        for (int time = 42; time <= 48; time++) {
            loseAll(x);
            x.tick();
            due("CUTs at " + time, count(x, CUT), time % 4 == 0 ? 1 : 0);
            due("PROPOSEs at " + time, count(x, PROPOSE), 0);
        }
        dueAll("CUT as before", body(x, find(x, CUT, 0, 2), 37), cut);
    }

    private static void fillAgain() {
        ViewHall x = lacking();
        replyAll(x);
        carry(x, CUT, 0, 1);
        due("MODE of 1", mode(x, 1), 3);
        for (int time = 42; time <= 48; time++) {
            loseAll(x);
            x.tick();
            due("FILLs at " + time, count(x, FILL), time % 4 == 0 ? 4 : 0);
        }
        // In MODE 2, too: 0 has the first, which 2 lacks, and waits for the second.
        ViewHall y = partlyLacking();
        due("MODE of 0", mode(y, 0), 2);
        for (int time = 42; time <= 48; time++) {
            loseAll(y);
            y.tick();
            due("FILLs at " + time, count(y, FILL), time % 4 == 0 ? 1 : 0);
        }
        dueAll("FILL", body(y, find(y, FILL, 0, 2), 4), 3, 1, FIFO, 1);
    }

    /** 1 has taken a cut and filled; then it promises anew, and another time it installs. */
    private static void fillNoMore() {
        ViewHall x = lacking();
        replyAll(x);
        carry(x, CUT, 0, 1);
        x.join(3);
        tickTo(x, 2);
        carry(x, HELLO, 3, 0);
        x.tick();
        carry(x, PROPOSE, 0, 1);
        due("MODE of 1", mode(x, 1), 1);
        tickTo(x, 4);
        due("FILLs in MODE 1", count(x, FILL), 0);
        ViewHall y = lacking();
        replyAll(y);
        complete(y, 1, 2);
        due("MODE of 1", mode(y, 1), 0);
        tickTo(y, 4);
        due("FILLs in MODE 0", count(y, FILL), 0);
    }

    private static void dataAgain() {
        ViewHall x = formed(3, 30);
        for (int i = 1; i <= 3; i++) {
            x.send(0, FIFO, i);
        }
        carry(x, DATA, 0, 1);
        carry(x, DATA, 0, 1);
        carry(x, DATA, 0, 2);
        loseAll(x);
        hellos(x);
        due("TIME", x.look(2), 42);
        due("STABLE", x.about(0, 16), 1);
        x.tick();
        due("DATA at 43", x.look(3), 0);
        x.tick();
        loseOthers(x, DATA);
        due("DATA at 44", x.look(3), 3);
        dueAll("the second", new int[] {x.packet(0, 9), x.packet(0, 2)}, 2, 2);
        dueAll("the third", new int[] {x.packet(1, 9), x.packet(1, 2)}, 3, 1);
        dueAll("the third", new int[] {x.packet(2, 9), x.packet(2, 2)}, 3, 2);
        while (x.look(3) > 0) {
            x.deliver(0);
        }
        hellos(x);
        due("STABLE", x.about(0, 16), 3);
        tickTo(x, 4);
        due("no DATA when all is stable", count(x, DATA), 0);
    }

    private static void installAgain() {
        ViewHall x = installing();
        int[] told = body(x, find(x, INSTALL, 0, 2), 37);
        x.send(0, AGREED, 2);
        carry(x, INSTALL, 0, 1);
        loseAll(x);
        x.tick();
        due("TIME", x.look(2), 4);
        due("INSTALLs: 1's VIEW is not known either", count(x, INSTALL), 2);
        carry(x, HELLO, 1, 0);
        for (int time = 5; time <= 8; time++) {
            loseAll(x);
            x.tick();
            due("INSTALLs at " + time, count(x, INSTALL), time == 8 ? 1 : 0);
        }
        dueAll("INSTALL as before", body(x, find(x, INSTALL, 0, 2), 37), told);
        carry(x, INSTALL, 0, 2);
        due("MODE of 2", mode(x, 2), 0);
        due("MEMBERS of 2", x.about(2, 7), 7);
        carry(x, HELLO, 2, 0);
        due("its elder HELLO tells the elder view", find(x, HELLO, 2, 0), -1);
        tickTo(x, 2);
        carry(x, HELLO, 2, 0);
        tickTo(x, 4);
        due("INSTALLs when all are known", count(x, INSTALL), 0);
    }

    private static void onlyMakerInstalls() {
        ViewHall x = installing();
        carry(x, INSTALL, 0, 1);
        loseAll(x);
        x.tick();
        carry(x, HELLO, 2, 1);
        due("1 is OPEN", mode(x, 1), 0);
        tickTo(x, 4);
        due("INSTALL of 1", find(x, INSTALL, 1, 2), -1);
        due("INSTALL of 0", find(x, INSTALL, 0, 2) >= 0 ? 1 : 0, 1);
    }

    private static void noDataWhenNotOpen() {
        ViewHall x = formed(3, 30);
        x.send(0, FIFO, 1);
        x.send(1, FIFO, 2);
        leaveLast(x);
        tickTo(x, 4);
        due("MODE of 0", mode(x, 0), 1);
        due("DATA of 0", find(x, DATA, 0, 1), -1);
        due("MODE of 1", mode(x, 1), 0);
        due("DATA of 1", find(x, DATA, 1, 0) >= 0 ? 1 : 0, 1);
    }

    private static void noInstallWhenNotOpen() {
        ViewHall x = installing();
        loseAll(x);
        x.crash(1);
        x.join(1);
        x.tick();
        due("INSTALLs", count(x, INSTALL), 2);
        carry(x, HELLO, 1, 0);
        x.tick();
        due("MODE of 0", mode(x, 0), 1);
        tickTo(x, 4);
        due("INSTALLs", count(x, INSTALL), 0);
    }

    // ---- d and e

    private static void helloWhenEven() {
        ViewHall x = joined(3, 30);
        for (int time = 1; time <= 9; time++) {
            loseAll(x);
            x.tick();
            due("HELLOs at " + time, count(x, HELLO), time % 2 == 0 ? 6 : 0);
        }
        ViewHall y = lacking();
        loseAll(y);
        y.tick();
        due("HELLOs of one that is not OPEN", find(y, HELLO, 0, 1) >= 0 ? 1 : 0, 1);
    }

    private static void helloToAll() {
        ViewHall x = new ViewHall();
        x.begin(6, 30);
        x.join(3);
        x.tick();
        due("tick", x.tick(), 5);
        int[] to = {0, 1, 2, 4, 5};
        for (int k = 0; k < 5; k++) {
            due("for", x.packet(k, 2), to[k]);
        }
    }

    /** Neither by its turn nor by a HELLO. */
    private static void noWorkWhenNotOpen() {
        ViewHall x = lacking();
        replyAll(x);
        carry(x, CUT, 0, 1);
        carry(x, FILL, 1, 2);
        carry(x, FILL, 1, 2);
        for (int mode = 1; mode <= 3; mode += 2) {
            due("MODE of 2", mode(x, 2), mode);
            x.tick();
            x.tick();
            carry(x, HELLO, 1, 2);
            due("GOT", x.stream(2, 0, 3, 0), 2);
            due("DONE", x.stream(2, 1, 3, 0), 0);
            carry(x, CUT, 0, 2);
        }
    }

    // ---- PROPOSE

    private static void proposalAbove() {
        ViewHall x = lacking();
        int number = x.about(0, 8);
        carry(x, PROPOSE, 0, 1);
        promise(x, 1, number, 0);
        due("MODE", mode(x, 1), 1);
        due("VIEW stays", x.about(1, 5), number - 1);
        int k = find(x, REPLY, 1, 0);
        dueAll("REPLY", body(x, k, 5), 0, 0, 0, 2, 0);
        dueAll("REPLY", head(x, k), REPLY, 1, 0, 41, x.about(1, 3), number - 1, 0, number, 0);
    }

    private static void proposalAgain() {
        ViewHall x = proposing(2);
        x.tick();
        carry(x, PROPOSE, 0, 1);
        int events = x.about(1, 4);
        int counter = x.about(1, 2);
        carry(x, PROPOSE, 0, 1);
        due("REPLYs", count(x, REPLY), 2);
        promise(x, 1, 2, 0);
        due("MODE", mode(x, 1), 1);
        due("COUNTER", x.about(1, 2), counter);
        due("events", x.about(1, 4), events);
    }

    /** As lacking, with a second PROPOSE to each under way; TIME is 44. */
    private static ViewHall proposedTwice() {
        ViewHall x = lacking();
        for (int i = 0; i < 3; i++) {
            x.tick();
        }
        due("PROPOSEs", count(x, PROPOSE), 4);
        return x;
    }

    private static void proposalWhenCut() {
        ViewHall x = proposedTwice();
        replyAll(x);
        carry(x, CUT, 0, 2);
        due("MODE of 2", mode(x, 2), 2);
        nothingComesOf(x, PROPOSE, 0, 2);
    }

    private static void proposalWhenWhole() {
        ViewHall x = proposedTwice();
        replyAll(x);
        carry(x, CUT, 0, 1);
        due("MODE of 1", mode(x, 1), 3);
        nothingComesOf(x, PROPOSE, 0, 1);
    }

    private static void proposalWhenOpen() {
        ViewHall x = proposing(2);
        x.tick();
        replyAll(x);
        carry(x, CUT, 0, 1);
        carry(x, READY, 1, 0);
        carry(x, INSTALL, 0, 1);
        due("MODE of 1", mode(x, 1), 0);
        nothingComesOf(x, PROPOSE, 0, 1);
    }

    private static void proposalBelow() {
        ViewHall x = proposing(3);
        x.crash(2);
        x.join(2);
        promise(x, 2, 2, 2);
        due("(2, 2) is above (2, 0)", x.packet(find(x, PROPOSE, 0, 2), 7), 2);
        nothingComesOf(x, PROPOSE, 0, 2);
        due("but it is heard", x.about(2, 11), 5);
    }

    // ---- the kinds 3 to 7 of another PROMISE, or in MODE 0

    /** 0 has made an attempt (2, 0) with 1, given it up for 2's sake, and proposes (3, 0) to both; TIME is 4 then. */
    private static ViewHall twoAttempts(int stage) {
        ViewHall x = saidHello(3, 30);
        carry(x, HELLO, 1, 0);
        x.tick();
        carry(x, PROPOSE, 0, 1);
        if (stage >= CUT) {
            carry(x, REPLY, 1, 0);
        }
        if (stage >= READY) {
            carry(x, CUT, 0, 1);
        }
        if (stage >= INSTALL) {
            carry(x, READY, 1, 0);
        }
        carry(x, HELLO, 2, 0);
        x.tick();
        promise(x, 0, 3, 0);
        due("S", x.about(0, 13), 7);
        return x;
    }

    private static void elderReply() {
        ViewHall x = twoAttempts(REPLY);
        nothingComesOf(x, REPLY, 1, 0);
        due("replied", x.about(0, 14), 1);
        carryLast(x, PROPOSE, 0, 1);
        carryLast(x, REPLY, 1, 0);
        due("replied", x.about(0, 14), 3);
    }

    private static void elderCut() {
        ViewHall x = twoAttempts(CUT);
        carryLast(x, PROPOSE, 0, 1);
        promise(x, 1, 3, 0);
        nothingComesOf(x, CUT, 0, 1);
        due("MODE of 1", mode(x, 1), 1);
        // Nor does it do anything to one whose PROMISE is the elder one's no more, in MODE 3.
        carryLast(x, PROPOSE, 0, 2);
        carryLast(x, REPLY, 1, 0);
        carryLast(x, REPLY, 2, 0);
        carryLast(x, CUT, 0, 1);
        due("MODE of 1", mode(x, 1), 3);
    }

    private static void elderFill() {
        ViewHall x = lacking();
        replyAll(x);
        carry(x, CUT, 0, 1);
        due("FILLs", count(x, FILL), 4);
        // 3 joins anew: 0 reaches one more, gives up, and proposes anew.
        x.join(3);
        x.tick();
        carry(x, HELLO, 3, 0);
        x.tick();
        carryLast(x, PROPOSE, 0, 2);
        due("MODE of 2", mode(x, 2), 1);
        due("VIEW of 2 is the FILL's", x.about(2, 5), x.packet(find(x, FILL, 1, 2), 5));
        nothingComesOf(x, FILL, 1, 2);
        due("GOT", x.stream(2, 0, 3, 0), 0);
    }

    private static void elderReady() {
        ViewHall x = twoAttempts(READY);
        for (int p = 1; p <= 2; p++) {
            carryLast(x, PROPOSE, 0, p);
            carryLast(x, REPLY, p, 0);
        }
        due("phase", phase(x, 0), 2);
        due("ready", x.about(0, 15), 1);
        nothingComesOf(x, READY, 1, 0);
        due("ready", x.about(0, 15), 1);
        carry(x, CUT, 0, 1);
        carryLast(x, READY, 1, 0);
        due("ready", x.about(0, 15), 3);
    }

    private static void elderInstall() {
        ViewHall x = twoAttempts(INSTALL);
        for (int p = 1; p <= 2; p++) {
            carryLast(x, PROPOSE, 0, p);
            carryLast(x, REPLY, p, 0);
        }
        carry(x, CUT, 0, 1);
        due("MODE of 1", mode(x, 1), 3);
        due("PROMISE of the INSTALL", x.packet(find(x, INSTALL, 0, 1), 7), 2);
        nothingComesOf(x, INSTALL, 0, 1);
        due("MODE of 1", mode(x, 1), 3);
        due("VIEW of 1", x.about(1, 5), 1);
    }

    private static void installWhenOpen() {
        ViewHall x = installing();
        x.tick();
        carry(x, INSTALL, 0, 1);
        x.send(1, FIFO, 1);
        nothingComesOf(x, INSTALL, 0, 1);
        due("GOT", x.stream(1, 0, 1, 0), 1);
    }

    private static void cutWhenOpen() {
        ViewHall x = proposing(2);
        replyAll(x);
        x.tick();
        due("CUTs", count(x, CUT), 2);
        carry(x, CUT, 0, 1);
        carry(x, READY, 1, 0);
        carry(x, INSTALL, 0, 1);
        due("MODE of 1", mode(x, 1), 0);
        nothingComesOf(x, CUT, 0, 1);
    }

    private static void readyWhenOpen() {
        ViewHall x = proposing(2);
        replyAll(x);
        x.tick();
        carry(x, CUT, 0, 1);
        carry(x, CUT, 0, 1);
        due("READYs", count(x, READY), 2);
        carry(x, READY, 1, 0);
        due("MODE of 0", mode(x, 0), 0);
        nothingComesOf(x, READY, 1, 0);
        due("phase", phase(x, 0), 0);
    }

    // ---- REPLY, CUT and FILL

    private static void lastReply() {
        ViewHall x = proposing(4);
        for (int p = 1; p <= 3; p++) {
            due("phase", phase(x, 0), 1);
            due("CUTs", count(x, CUT), 0);
            carry(x, PROPOSE, 0, p);
            carry(x, REPLY, p, 0);
            due("replied", x.about(0, 14), (2 << p) - 1);
        }
        due("phase", phase(x, 0), 2);
        due("CUTs", count(x, CUT), 3);
        due("MODE", mode(x, 0), 3);
        due("ready", x.about(0, 15), 1);
    }

    private static void replyTwice() {
        ViewHall x = proposing(3);
        x.tick();
        carry(x, PROPOSE, 0, 1);
        carry(x, PROPOSE, 0, 1);
        carry(x, REPLY, 1, 0);
        nothingComesOf(x, REPLY, 1, 0);
        due("replied", x.about(0, 14), 3);
        due("phase", phase(x, 0), 1);
        // In phase 2 one more brings no more CUTs.
        carry(x, PROPOSE, 0, 2);
        carry(x, PROPOSE, 0, 2);
        carry(x, REPLY, 2, 0);
        due("CUTs", count(x, CUT), 2);
        nothingComesOf(x, REPLY, 2, 0);
    }

    /** 2 replies once more, when it has been filled: the CUT stays as before. */
    private static void replyInPhaseTwo() {
        ViewHall x = proposedTwice();
        replyAll(x);
        int[] cut = body(x, find(x, CUT, 0, 2), 37);
        carry(x, CUT, 0, 1);
        carry(x, FILL, 1, 2);
        carry(x, FILL, 1, 2);
        carry(x, PROPOSE, 0, 2);
        due("GOT in the second REPLY", x.packet(find(x, REPLY, 2, 0), 12), 2);
        nothingComesOf(x, REPLY, 2, 0);
        tickTo(x, 4);
        dueAll("CUT as before", body(x, find(x, CUT, 0, 2), 37), cut);
    }

    private static void replyWithoutAttempt() {
        ViewHall x = givenUp(REPLY);
        nothingComesOf(x, REPLY, 2, 1);
        due("replied", x.about(1, 14), 0);
    }

    /** 1 made an attempt with 2, up to where 2 sends this kind, and has given it up, for it reaches 0. */
    private static ViewHall givenUp(int kind) {
        ViewHall x = saidHello(3, 30);
        carry(x, HELLO, 2, 1);
        x.tick();
        carry(x, PROPOSE, 1, 2);
        if (kind == READY) {
            carry(x, REPLY, 2, 1);
            carry(x, CUT, 1, 2);
        }
        carry(x, HELLO, 0, 1);
        x.tick();
        due("phase of 1", phase(x, 1), 0);
        promise(x, 1, 2, 1);
        return x;
    }

    private static void teams() {
        ViewHall x = new ViewHall();
        x.begin(3, 30);
        x.join(0);
        x.join(1);
        x.go(40, 1, 0);
        x.join(2);
        x.send(2, FIFO, 9);
        x.send(0, FIFO, 8);
        tickTo(x, 2);
        carry(x, HELLO, 2, 0);
        x.tick();
        due("S", x.about(0, 13), 7);
        replyAll(x);
        dueAll("CUT to 1", body(x, find(x, CUT, 0, 1), 11), 3, 1, 0, 0, 0, 0, 0, 0, 0, 0, 0);
        dueAll("CUT to 2", body(x, find(x, CUT, 0, 2), 11), 4, 0, 0, 0, 0, 0, 0, 0, 0, 1, 0);
        due("MODE of 0", mode(x, 0), 3);
        due("FILLs: one to 1", count(x, FILL), 1);
        carry(x, CUT, 0, 2);
        due("MODE of 2", mode(x, 2), 3);
        carry(x, CUT, 0, 1);
        due("MODE of 1", mode(x, 1), 2);
    }

    private static void cutTaken() {
        ViewHall x = lacking();
        replyAll(x);
        due("MODE of 1", mode(x, 1), 1);
        carry(x, CUT, 0, 1);
        due("MODE of 1, which has all", mode(x, 1), 3);
        due("READY", count(x, READY), 1);
        carry(x, CUT, 0, 2);
        due("MODE of 2, which lacks", mode(x, 2), 2);
        due("READY", count(x, READY), 1);
    }

    private static void cutWhenCut() {
        ViewHall x = lacking();
        replyAll(x);
        carry(x, CUT, 0, 2);
        for (int i = 0; i < 3; i++) {
            x.tick();
        }
        due("MODE of 2", mode(x, 2), 2);
        nothingComesOf(x, CUT, 0, 2);
    }

    private static void cutWhenWhole() {
        ViewHall x = lacking();
        replyAll(x);
        carry(x, CUT, 0, 1);
        for (int i = 0; i < 3; i++) {
            x.tick();
        }
        int fills = count(x, FILL);
        int[] ready = body(x, find(x, READY, 1, 0), 37);
        carry(x, CUT, 0, 1);
        due("READYs", count(x, READY), 2);
        dueAll("READY again", body(x, findLast(x, READY, 1, 0), 37), ready);
        due("no FILLs by it", count(x, FILL), fills);
        due("MODE of 1", mode(x, 1), 3);
    }

    /** Of 3's three messages 0 has one, 1 all and 2 none. */
    private static void fillEdges() {
        ViewHall x = formed(4, 30);
        for (int i = 1; i <= 3; i++) {
            x.send(3, FIFO, i);
            carry(x, DATA, 3, 1);
        }
        carry(x, DATA, 3, 0);
        leaveLast(x);
        replyAll(x);
        due("FILLs of 0", count(x, FILL), 1);
        dueAll("the first, to 2", body(x, find(x, FILL, 0, 2), 8), 3, 1, FIFO, 1, 0, 0, 0, 0);
        loseOthers(x, CUT);
        carry(x, CUT, 0, 2);
        due("FILLs of 2", count(x, FILL), 0);
        carry(x, CUT, 0, 1);
        loseOthers(x, FILL);
        due("FILLs of 1", x.look(3), 4);
        for (int k = 0; k < 4; k++) {
            due("number", x.packet(k, 10), k / 2 + 2);
            due("for", x.packet(k, 2), k % 2 * 2);
        }
    }

    private static void lookForAll() {
        ViewHall x = formed(4, 30);
        x.send(3, FIFO, 1);
        x.send(2, FIFO, 2);
        carry(x, DATA, 3, 1);
        carry(x, DATA, 2, 1);
        leaveLast(x);
        replyAll(x);
        carry(x, CUT, 0, 1);
        carry(x, CUT, 0, 2);
        due("0 lacks one of 2's and one of 3's", mode(x, 0), 2);
        carry(x, FILL, 1, 0);
        due("MODE of 0", mode(x, 0), 2);
        carry(x, FILL, 1, 0);
        due("MODE of 0", mode(x, 0), 3);
        due("MODE of 2, which has its own", mode(x, 2), 2);
        carry(x, FILL, 1, 2);
        due("MODE of 2", mode(x, 2), 3);
    }

    private static void endIsThought() {
        ViewHall x = formed(3, 30);
        x.send(1, SAFE, 16);
        x.send(1, AGREED, 2);
        leaveLast(x);
        replyAll(x);
        int events = x.about(1, 4);
        carry(x, CUT, 0, 1);
        dueAll("READY", body(x, find(x, READY, 1, 0), 7), 2, 1, 1, 0, 0, 0, 0);
        due("MODE", mode(x, 1), 3);
        due("APPLIED", x.about(1, 18), 0);
        due("OWNER", x.about(1, 19), -1);
        due("DONE", x.stream(1, 1, 1, 0), 0);
        due("events", x.about(1, 4), events);
        carry(x, FILL, 1, 0);
        carry(x, FILL, 1, 0);
        carry(x, READY, 1, 0);
        carry(x, INSTALL, 0, 1);
        due("APPLIED", x.about(1, 18), 2);
        due("events: two deliveries and a view", x.about(1, 4), events + 3);
    }

    private static void fillWhenPromised() {
        ViewHall x = lacking();
        replyAll(x);
        carry(x, CUT, 0, 1);
        due("MODE of 2", mode(x, 2), 1);
        carry(x, FILL, 1, 2);
        carry(x, FILL, 1, 2);
        due("GOT", x.stream(2, 0, 3, 0), 2);
        due("DONE", x.stream(2, 1, 3, 0), 0);
        due("it does not look", mode(x, 2), 1);
        carry(x, CUT, 0, 2);
        due("MODE of 2", mode(x, 2), 3);
    }

    private static void fillWhenWhole() {
        ViewHall x = lacking();
        replyAll(x);
        carry(x, CUT, 0, 1);
        carry(x, CUT, 0, 2);
        for (int i = 0; i < 3; i++) {
            x.tick();
        }
        carry(x, FILL, 1, 2);
        carry(x, FILL, 1, 2);
        due("MODE of 2", mode(x, 2), 3);
        nothingComesOf(x, FILL, 1, 2);
        due("GOT", x.stream(2, 0, 3, 0), 2);
    }

    // ---- READY and INSTALL

    private static void readyTwice() {
        ViewHall x = proposing(3);
        replyAll(x);
        x.tick();
        carry(x, CUT, 0, 1);
        carry(x, CUT, 0, 1);
        carry(x, READY, 1, 0);
        due("ready", x.about(0, 15), 3);
        nothingComesOf(x, READY, 1, 0);
        due("ready", x.about(0, 15), 3);
        carry(x, CUT, 0, 2);
        carry(x, READY, 2, 0);
        due("MEMBERS", x.about(0, 7), 7);
    }

    private static void readyWithoutAttempt() {
        ViewHall x = givenUp(READY);
        due("MODE of 1", mode(x, 1), 3);
        nothingComesOf(x, READY, 2, 1);
        due("ready", x.about(1, 15), 0);
    }

    private static void readyAheadOfOwn() {
        ViewHall x = lacking();
        replyAll(x);
        carry(x, CUT, 0, 1);
        carry(x, CUT, 0, 2);
        carry(x, FILL, 1, 2);
        carry(x, FILL, 1, 2);
        carry(x, READY, 1, 0);
        carry(x, READY, 2, 0);
        due("ready", x.about(0, 15), 6);
        due("MODE of 0", mode(x, 0), 2);
        carry(x, FILL, 1, 0);
        due("MODE of 0", mode(x, 0), 2);
        carry(x, FILL, 1, 0);
        due("MODE of 0: its own was the last", mode(x, 0), 0);
        due("MEMBERS of 0", x.about(0, 7), 7);
        due("INSTALLs", count(x, INSTALL), 2);
    }

    /** Three that were alone; so many AGREED messages each set cell 0 to another number. */
    private static ViewHall merged(int of0, int of1, int of2) {
        ViewHall x = joined(3, 30);
        int[] times = {of0, of1, of2};
        for (int p = 0; p < 3; p++) {
            for (int i = 0; i < times[p]; i++) {
                x.send(p, AGREED, (p + 1) << 4);
            }
        }
        x.go(30, 1, 0);
        due("MEMBERS", x.about(2, 7), 7);
        return x;
    }

    private static void told(int cell, int applied, ViewHall x) {
        for (int p = 0; p < 3; p++) {
            due("CELL of " + p, x.about(p, 20), cell);
            due("APPLIED of " + p, x.about(p, 18), applied);
            due("APPLIED in the event", x.event(p, x.about(p, 4) - 1, 4), applied);
        }
    }

    private static void greatestTold() {
        told(1, 3, merged(3, 2, 1));
        told(2, 3, merged(2, 3, 1));
        told(3, 3, merged(1, 2, 3));
        told(3, 1, merged(0, 0, 1));
    }

    private static void leastOfGreatest() {
        told(1, 2, merged(2, 2, 2));
        told(2, 2, merged(1, 2, 2));
        told(1, 2, merged(2, 1, 2));
        told(0, 0, merged(0, 0, 0));
    }

    /** In a first view 2's END is told; 0 and 1 are OUT then, and join anew without it. */
    private static void toldInSet() {
        ViewHall x = joined(3, 6);
        for (int i = 0; i < 5; i++) {
            x.send(2, AGREED, 16);
        }
        x.go(40, 1, 0);
        due("APPLIED", x.about(0, 18), 5);
        for (int p = 0; p <= 2; p++) {
            x.crash(p);
        }
        x.join(0);
        x.join(1);
        x.go(40, 1, 0);
        due("MEMBERS", x.about(0, 7), 3);
        due("APPLIED", x.about(0, 18), 0);
        due("CELL", x.about(0, 20), 0);
    }

    private static void wholeState() {
        ViewHall x = saidHello(2, 30);
        for (int c = 0; c < 4; c++) {
            x.send(1, AGREED, (c + 5) << 4 | c << 2);
        }
        x.send(1, AGREED, 2);
        carry(x, HELLO, 1, 0);
        loseAll(x);
        x.tick();
        replyAll(x);
        carry(x, CUT, 0, 1);
        dueAll("READY", body(x, find(x, READY, 1, 0), 7), 5, 1, 5, 6, 7, 8, 0);
        carry(x, READY, 1, 0);
        dueAll("INSTALL", body(x, find(x, INSTALL, 0, 1), 8), 3, 5, 1, 5, 6, 7, 8, 0);
        carry(x, INSTALL, 0, 1);
        for (int p = 0; p <= 1; p++) {
            for (int what = 18; what <= 23; what++) {
                due("STATE of " + p, x.about(p, what), new int[] {5, 1, 5, 6, 7, 8}[what - 18]);
            }
        }
    }

    /** Three in a view, the owner being p; then the last process leaves, and 0 installs a view of the rest. */
    private static ViewHall withOwner(int p) {
        ViewHall x = formed(3, 30);
        x.send(p, AGREED, 2);
        x.go(8, 1, 0);
        due("OWNER", x.about(0, 19), p);
        leaveLast(x);
        replyAll(x);
        carry(x, CUT, 0, 1);
        carry(x, READY, 1, 0);
        return x;
    }

    private static void ownerNotIn() {
        ViewHall x = withOwner(2);
        due("OWNER of 0", x.about(0, 19), -1);
        dueAll("INSTALL as told", body(x, find(x, INSTALL, 0, 1), 8), 3, 1, 2, 0, 0, 0, 0, 0);
        carry(x, INSTALL, 0, 1);
        due("OWNER of 1", x.about(1, 19), -1);
        due("APPLIED of 1", x.about(1, 18), 1);
        // Process 0 can be an owner that is not there, too.
        ViewHall y = formed(3, 30);
        y.send(0, AGREED, 2);
        y.go(8, 1, 0);
        loseAll(y);
        y.leave(0);
        carry(y, BYE, 0, 1);
        loseAll(y);
        y.tick();
        carry(y, PROPOSE, 1, 2);
        carry(y, REPLY, 2, 1);
        due("OWNER ahead of it", y.about(2, 19), 0);
        complete(y, 2);
        due("OWNER of 1", y.about(1, 19), -1);
        due("OWNER of 2", y.about(2, 19), -1);
    }

    private static void ownerIn() {
        for (int p = 0; p <= 1; p++) {
            ViewHall x = withOwner(p);
            due("OWNER of 0", x.about(0, 19), p);
            carry(x, INSTALL, 0, 1);
            due("OWNER of 1", x.about(1, 19), p);
        }
    }

    private static void installed() {
        ViewHall x = withOwner(0);
        int number = x.about(1, 8);
        due("VIEW of 1 ahead of it", x.about(1, 5), number - 1);
        carry(x, INSTALL, 0, 1);
        for (int p = 0; p <= 1; p++) {
            due("VIEW, number", x.about(p, 5), number);
            due("VIEW, process", x.about(p, 6), 0);
            promise(x, p, number, 0);
            due("MEMBERS", x.about(p, 7), 3);
            due("MODE", mode(x, p), 0);
            due("attempt", phase(x, p), 0);
        }
    }

    // ---- the end of a view

    /** All that 0 proposed to take the cut and install. */
    private static void complete(ViewHall x, int... others) {
        int head = x.about(others[0], 9);
        for (int p : others) {
            carry(x, CUT, head, p);
        }
        for (int left = x.look(3), k = 0; left > 0; left--) {
            if (x.packet(k, 0) == FILL) {
                x.deliver(k);
            } else {
                k++;
            }
        }
        for (int p : others) {
            carry(x, READY, p, head);
        }
        for (int p : others) {
            carry(x, INSTALL, head, p);
            due("MODE of " + p, mode(x, p), 0);
        }
        due("MODE of the head", mode(x, head), 0);
    }

    private static void safeAtEnd() {
        ViewHall x = formed(4, 30);
        // One entry has come and gone before.
        x.send(3, AGREED, 0);
        for (int p = 0; p < 3; p++) {
            carry(x, DATA, 3, p);
        }
        carry(x, DATA, 0, 1);
        carry(x, DATA, 0, 2);
        x.send(2, SAFE, 32);
        x.send(1, SAFE, 16);
        carry(x, DATA, 2, 0);
        carry(x, DATA, 1, 0);
        due("ORDERS: 2's, then 1's", x.about(0, 17), 2);
        int[] events = {x.about(0, 4), x.about(1, 4), x.about(2, 4)};
        leaveLast(x);
        replyAll(x);
        complete(x, 1, 2);
        for (int p = 0; p < 3; p++) {
            dueAll("first", event(x, p, events[p]), 2, 2, 1, SAFE, 32);
            dueAll("second", event(x, p, events[p] + 1), 2, 1, 1, SAFE, 16);
            due("then the view", x.event(p, events[p] + 2, 0), 1);
            due("CELL", x.about(p, 20), 1);
        }
    }

    private static void noOrderAtEnd() {
        ViewHall x = formed(3, 30);
        x.send(1, AGREED, 16);
        leaveLast(x);
        replyAll(x);
        complete(x, 1);
        due("DATA", count(x, DATA), 0);
        for (int p = 0; p < 2; p++) {
            due("CELL", x.about(p, 20), 1);
            due("GOT in the new view", x.stream(p, 0, 0, 0), 0);
            due("ORDERS in the new view", x.about(p, 17), 0);
        }
    }

    /** 1 and 2 have an order for a message of 3 that only 0 had; 1's AGREED is in none. */
    private static void ordersEmptied() {
        ViewHall x = formed(4, 30);
        x.send(3, AGREED, 48);
        carry(x, DATA, 3, 0);
        carry(x, DATA, 0, 1);
        carry(x, DATA, 0, 2);
        x.send(1, AGREED, 16);
        carry(x, DATA, 1, 2);
        due("ORDERS", x.about(2, 17), 1);
        int events = x.about(2, 4);
        x.leave(0);
        x.leave(3);
        carry(x, BYE, 0, 1);
        carry(x, BYE, 3, 1);
        loseAll(x);
        x.tick();
        carry(x, PROPOSE, 1, 2);
        carry(x, REPLY, 2, 1);
        complete(x, 2);
        dueAll("1's is delivered all the same", event(x, 2, events), 2, 1, 1, AGREED, 16);
        due("then the view", x.event(2, events + 1, 0), 1);
        due("CELL of 1", x.about(1, 20), 1);
        due("MEMBERS of 1", x.about(1, 7), 6);
    }

    /** 1 has a message of 2 that builds on one of 3, which both 0 and 1 lack. */
    private static void unclearAtEnd(int sort, boolean passed) {
        ViewHall x = formed(4, 30);
        x.send(3, FIFO, 1);
        carry(x, DATA, 3, 2);
        x.send(2, sort, 16);
        loseOthers(x, DATA);
        x.leave(2);
        x.leave(3);
        carry(x, BYE, 2, 0);
        carry(x, BYE, 3, 0);
        int events = x.about(0, 4);
        carry(x, DATA, 2, 1);
        int passedBy1 = x.about(1, 4);
        loseAll(x);
        x.tick();
        replyAll(x);
        complete(x, 1);
        due("events of 0", x.about(0, 4), events + (passed ? 2 : 1));
        due("events of 1", x.about(1, 4), passedBy1 + 1);
        due("APPLIED", x.about(0, 18), 0);
        if (passed) {
            dueAll("its delivery", event(x, 0, events), 2, 2, 1, sort, 16);
        }
    }

    private static void leastAtEnd() {
        ViewHall x = formed(4, 30);
        x.send(2, AGREED, 32);
        x.send(1, SAFE, 16);
        x.send(2, FIFO, 7);
        int[] events = {x.about(0, 4), x.about(1, 4), x.about(2, 4)};
        leaveLast(x);
        replyAll(x);
        complete(x, 1, 2);
        for (int p = 0; p < 3; p++) {
            dueAll("first", event(x, p, events[p]), 2, 1, 1, SAFE, 16);
            dueAll("second", event(x, p, events[p] + 1), 2, 2, 1, AGREED, 32);
            dueAll("third", event(x, p, events[p] + 2), 2, 2, 2, FIFO, 7);
            due("CELL", x.about(p, 20), 2);
        }
    }
}
