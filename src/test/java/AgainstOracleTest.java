import java.util.Random;

/** Random runs of calls on the class and on the oracle: after each call all that can be asked is the same. */
public final class AgainstOracleTest {
    private static final int CALLS = 512;
    private final Random random;
    private final ViewHall hall = new ViewHall();
    private final Oracle oracle = new Oracle();
    /** Below which of 100 a call is join, leave or crash; send; part; tick; deliver or lose; the rest is go. */
    private static final int[][] ODDS = {
        {3, 30, 33, 50, 80}, {1, 30, 31, 40, 80}, {1, 25, 26, 36, 97}, {2, 30, 33, 85, 99}, {4, 20, 25, 30, 35}};

    private final int style;
    private final int heldKind;
    private final int heldFor;
    private String last = "new ViewHall()";

    private AgainstOracleTest(long run) {
        random = new Random(run);
        style = random.nextInt(ODDS.length);
        heldKind = random.nextInt(20);
        heldFor = random.nextInt(12);
    }

    public static void main(String[] args) {
        int runs = args.length > 0 ? Integer.parseInt(args[0]) : 400;
        long first = args.length > 1 ? Long.parseLong(args[1]) : 0;
        int wrong = 0;
        for (long run = first; run < first + runs && wrong < 5; run++) {
            String fault = new AgainstOracleTest(run).fault();
            if (fault != null) {
                wrong++;
                System.out.println("run " + run + ": " + fault);
            }
        }
        System.out.println(wrong == 0 ? "class and oracle agree" : "class and oracle differ");
        if (wrong != 0) {
            System.exit(1);
        }
    }

    private String fault() {
        String fault = difference();
        for (int call = 0; call < CALLS && fault == null; call++) {
            fault = call == 0 ? start() : step();
            if (fault == null && (call % 3 == 0 || random.nextInt(8) == 0)) {
                fault = difference();
            }
            if (fault != null) {
                return "call " + call + ", " + last + ": " + fault;
            }
        }
        return fault;
    }

    private String start() {
        int processes = 2 + random.nextInt(5);
        int patience = random.nextInt(3) == 0 ? 6 + random.nextInt(25) : 6 + random.nextInt(4);
        last = "begin " + processes + " " + patience;
        hall.begin(processes, patience);
        oracle.begin(processes, patience);
        // A calm run starts with one view of all, so that what follows happens inside of it.
        if (style == 1 || style == 2 && random.nextBoolean()) {
            for (int p = 0; p < processes; p++) {
                hall.join(p);
                oracle.join(p);
            }
            return same(hall.go(40, 5, 0), oracle.go(40, 5, 0));
        }
        return null;
    }

    private String step() {
        int pick = random.nextInt(100);
        int p = random.nextInt(oracle.n);
        int[] odds = ODDS[style];
        if (random.nextInt(250) == 0) {
            return start();
        }
        if (!oracle.isIn(p)) {
            return random.nextInt(3) == 0 ? presence(p) : null;
        }
        if (pick < odds[0]) {
            return presence(p);
        }
        if (pick < odds[1]) {
            return talk(p);
        }
        if (pick < odds[2]) {
            int sides = random.nextInt(2) == 0 ? 0 : random.nextInt((int) Math.pow(3, oracle.n));
            last = "part " + sides;
            hall.part(sides);
            oracle.part(sides);
            return null;
        }
        if (pick < odds[3]) {
            last = "tick";
            return same(hall.tick(), oracle.tick());
        }
        return pick < odds[4] ? carry() : run();
    }

    private String run() {
        int times = random.nextInt(random.nextInt(4) == 0 ? 20 : 3) + 1;
        int seed = random.nextInt();
        int loss = random.nextInt(6) == 0 ? random.nextInt(17) : random.nextInt(3);
        last = "go " + times + " " + seed + " " + loss;
        return same(hall.go(times, seed, loss), oracle.go(times, seed, loss));
    }

    private String presence(int p) {
        if (!oracle.isIn(p)) {
            last = "join " + p;
            hall.join(p);
            oracle.join(p);
        } else if (random.nextBoolean()) {
            last = "leave " + p;
            hall.leave(p);
            oracle.leave(p);
        } else {
            last = "crash " + p;
            hall.crash(p);
            oracle.crash(p);
        }
        return null;
    }

    private String talk(int p) {
        if (!oracle.isIn(p)) {
            return null;
        }
        int sort = random.nextInt(4);
        int value = random.nextInt(8) == 0 ? random.nextInt() : random.nextInt(64);
        last = "send " + p + " " + sort + " " + value;
        return same(hall.send(p, sort, value), oracle.send(p, sort, value));
    }

    private String carry() {
        int count = oracle.row.size();
        if (count == 0) {
            return null;
        }
        int k = random.nextInt(count);
        // Some runs hold one kind, or what one process is to get, back for long.
        for (int i = 0; i < 5 && (oracle.row.get(k).kind == heldKind || oracle.row.get(k).to == heldFor); i++) {
            k = random.nextInt(count);
        }
        if (random.nextInt(6) == 0) {
            last = "lose " + k;
            hall.lose(k);
            oracle.lose(k);
        } else {
            last = "deliver " + k;
            hall.deliver(k);
            oracle.deliver(k);
        }
        return null;
    }

    private static String same(int got, int want) {
        return got == want ? null : "answered " + got + ", due is " + want;
    }

    private String difference() {
        for (int what = 0; what < 5; what++) {
            if (hall.look(what) != oracle.look(what)) {
                return "look " + what + " " + same(hall.look(what), oracle.look(what));
            }
        }
        int count = oracle.row.size();
        for (int k = random.nextInt(1 + count / 20); k < count; k += 1 + random.nextInt(1 + count / 20)) {
            for (int what = 0; what < 46; what++) {
                if (hall.packet(k, what) != oracle.packet(k, what)) {
                    return "packet " + k + " " + what + " " + same(hall.packet(k, what), oracle.packet(k, what));
                }
            }
        }
        for (int p = 0; p < oracle.n; p++) {
            String fault = difference(p);
            if (fault != null) {
                return fault;
            }
        }
        return null;
    }

    private String difference(int p) {
        for (int what = 0; what < 24; what++) {
            if (hall.about(p, what) != oracle.about(p, what)) {
                return "about " + p + " " + what + " " + same(hall.about(p, what), oracle.about(p, what));
            }
        }
        for (int what = 0; what < 4; what++) {
            for (int u = 0; u < oracle.n; u++) {
                for (int q = 0; q < oracle.n; q++) {
                    if (hall.stream(p, what, u, q) != oracle.stream(p, what, u, q)) {
                        return "stream " + p + " " + what + " " + u + " " + q + " "
                            + same(hall.stream(p, what, u, q), oracle.stream(p, what, u, q));
                    }
                }
            }
        }
        int size = oracle.procs[p].events.size();
        for (int k = Math.max(0, size - 64); k < size; k++) {
            for (int what = 0; what < 5; what++) {
                if (hall.event(p, k, what) != oracle.event(p, k, what)) {
                    return "event " + p + " " + k + " " + what + " "
                        + same(hall.event(p, k, what), oracle.event(p, k, what));
                }
            }
        }
        return null;
    }
}
