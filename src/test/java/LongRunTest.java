/**
 * Rule 7 of LANGUAGE.md: long runs of ordinary calls come to their ends. Each run has a clock of its own, which
 * leaves it many times what it needs; a program that looks at every position of the game at each call is far
 * beyond it. Games that end must have been won.
 */
public final class LongRunTest {
    private static final int SECONDS = 30;
    private static final int[] EXTREMES = {Integer.MIN_VALUE, -1000, -8, -7, -1, 6, 7, 8, 100, Integer.MAX_VALUE};
    private static final Checks CHECKS = new Checks();

    private static long seed = 1;

    public static void main(String[] args) {
        run("new objects", LongRunTest::newObjects);
        run("verdict again and again", LongRunTest::verdictAgain);
        run("verdict after each edit", LongRunTest::verdictAfterEdits);
        run("verdict after each edit, many contingent links", LongRunTest::verdictOfContingents);
        run("lazy games", LongRunTest::lazyGames);
        run("games with outcomes", LongRunTest::gamesWithOutcomes);
        run("edits, verdicts and games in turn", LongRunTest::editsAndGames);
        run("all calls in all states, all sizes", LongRunTest::allCalls);
        CHECKS.finish();
    }

    private static void run(String what, Runnable calls) {
        Clock clock = new Clock(what, SECONDS);
        long begin = System.nanoTime();
        calls.run();
        clock.stop();
        System.out.println(what + ": " + (System.nanoTime() - begin) / 1000000 + " ms");
    }

    private static void due(String call, int got, int want) {
        CHECKS.due(call, got, want);
    }

    private static int pick(int bound) {
        seed = seed * 6364136223846793005L + 1442695040888963407L;
        return (int) ((seed >>> 33) % bound);
    }

    private static void newObjects() {
        for (int k = 0; k < 300000; k++) {
            ControllableTime x = new ControllableTime(6, 7);
            due("state() of a new object", x.state(), 0);
        }
    }

    private static void verdictAgain() {
        ControllableTime x = new ControllableTime(6, 7);
        for (int k = 0; k < 300000; k++) {
            due("verdict()", x.verdict(), 1);
        }
        x.addRequirement(0, 5, -7, -1);
        for (int k = 0; k < 300000; k++) {
            due("verdict()", x.verdict(), 0);
            due("start()", x.start(), 105);
        }
    }

    private static void verdictAfterEdits() {
        ControllableTime x = new ControllableTime(6, 7);
        for (int k = 0; k < 60000; k++) {
            x.addRequirement(1, 2, 5, 7);
            due("verdict()", x.verdict(), 1);
            x.addRequirement(2, 3, 3, 7);
            due("verdict() with a chain beyond the horizon", x.verdict(), 0);
            x.dropRequirement(2, 3);
            x.dropRequirement(1, 2);
        }
    }

    private static void verdictOfContingents() {
        ControllableTime x = new ControllableTime(6, 7);
        x.addContingent(1, 2, 1, 2);
        x.addContingent(2, 3, 1, 1);
        x.addContingent(0, 4, 1, 4);
        for (int k = 0; k < 60000; k++) {
            x.addRequirement(4, 1, 0, 3);
            due("verdict() with a chain that just fits", x.verdict(), 1);
            x.addContingent(3, 5, 1, 1);
            due("verdict() with the chain too long", x.verdict(), 0);
            x.dropContingent(5);
            x.dropRequirement(4, 1);
            x.addRequirement(4, 1, -1, -1);
            due("verdict() with a choice in the round before the outcome", x.verdict(), 0);
            x.dropRequirement(4, 1);
        }
    }

    private static void lazyGames() {
        ControllableTime x = new ControllableTime(6, 7);
        for (int e = 1; e <= 5; e++) {
            x.setPolicy(e, 1);
        }
        for (int k = 0; k < 60000; k++) {
            due("start()", x.start(), 0);
            for (int t = 0; t < 7; t++) {
                due("step() before the last round", x.step(), 0);
            }
            due("step() in the last round", x.step(), 62);
            due("state()", x.state(), 2);
            due("restart()", x.restart(), 0);
        }
    }

    private static void gamesWithOutcomes() {
        ControllableTime x = new ControllableTime(6, 7);
        x.addContingent(0, 1, 1, 4);
        x.addContingent(2, 3, 1, 2);
        x.addRequirement(1, 3, 0, 2);
        x.addRequirement(3, 4, 0, 1);
        x.setPolicy(5, 1);
        for (int k = 0; k < 60000; k++) {
            x.setPolicy(4, pick(2));
            due("start()", x.start(), 0);
            playToTheEnd(x, 7);
            checkWon(x, 6);
            due("restart()", x.restart(), 0);
        }
    }

    private static void playToTheEnd(ControllableTime x, int horizon) {
        for (int t = 0; t <= horizon && x.state() == 1; t++) {
            for (int e = 1; e < 6; e++) {
                if (pick(3) == 0) {
                    x.reveal(e);
                }
            }
            x.step();
        }
    }

    /** Every requirement and every duration must hold at the end of a game that start has let begin. */
    private static void checkWon(ControllableTime x, int events) {
        due("state() at the end", x.state(), 2);
        for (int u = 0; u < events; u++) {
            due("event " + u + " has a time", x.timeOf(u) == 100 ? 1 : 0, 0);
            for (int v = 0; v < events; v++) {
                if (u != v && x.timeOf(v) - x.timeOf(u) > x.limit(u, v)) {
                    due("requirement " + u + ", " + v + " broken", 1, 0);
                }
            }
        }
        for (int c = 1; c < events; c++) {
            if (x.linkOf(c, 0) != 100) {
                int duration = x.timeOf(c) - x.timeOf(x.linkOf(c, 0));
                due("duration of " + c + " in its bounds",
                        duration >= x.linkOf(c, 1) && duration <= x.linkOf(c, 2) ? 1 : 0, 1);
            }
        }
    }

    private static void editsAndGames() {
        int won = 0;
        for (int k = 0; k < 4000; k++) {
            int events = 3 + pick(4);
            int horizon = 3 + pick(5);
            ControllableTime x = new ControllableTime(events, horizon);
            for (int turn = 0; turn < 12; turn++) {
                edit(x, events, horizon);
                if (x.start() == 0) {
                    playToTheEnd(x, horizon);
                    checkWon(x, events);
                    due("restart()", x.restart(), 0);
                    won++;
                } else {
                    due("verdict() of a network that start rejects", x.verdict(), 0);
                }
            }
        }
        System.out.println("games won: " + won);
        due("enough games", won > 10000 ? 1 : 0, 1);
    }

    private static void edit(ControllableTime x, int events, int horizon) {
        int u = pick(events);
        int v = pick(events);
        int kind = pick(10);
        if (kind < 4) {
            int lo = pick(horizon) - horizon / 2;
            x.addRequirement(u, v, lo, lo + pick(horizon - lo + 1));
        } else if (kind < 7) {
            int lo = 1 + pick(2);
            x.addContingent(u, v, lo, lo + pick(2));
        } else if (kind < 8) {
            x.dropRequirement(u, v);
        } else if (kind < 9) {
            x.dropContingent(v);
        } else {
            x.setPolicy(v, pick(2));
        }
    }

    private static void allCalls() {
        for (int events = 2; events <= 7; events++) {
            for (int horizon = 2; horizon <= 8; horizon++) {
                ControllableTime x = new ControllableTime(events, horizon);
                for (int k = 0; k < 20000; k++) {
                    anyCall(x);
                }
            }
        }
    }

    private static int anyNumber() {
        return pick(10) == 0 ? EXTREMES[pick(EXTREMES.length)] : pick(12) - 4;
    }

    private static void anyCall(ControllableTime x) {
        int a = anyNumber();
        int b = anyNumber();
        int c = anyNumber();
        int d = anyNumber();
        switch (pick(20)) {
            case 0 -> x.addRequirement(a, b, c, d);
            case 1 -> x.addContingent(a, b, c, d);
            case 2, 3 -> x.dropRequirement(a, b);
            case 4 -> x.dropContingent(a);
            case 5 -> x.setPolicy(a, b);
            case 6 -> x.verdict();
            case 7, 8 -> x.start();
            case 9, 10 -> x.reveal(a);
            case 11, 12, 13 -> x.step();
            case 14 -> x.restart();
            case 15 -> due("state() in 0..2", x.state() >= 0 && x.state() <= 2 ? 1 : 0, 1);
            case 16 -> due("now() in 0..7", x.now() >= 0 && x.now() <= 7 ? 1 : 0, 1);
            case 17 -> x.timeOf(a);
            case 18 -> x.limit(a, b);
            default -> {
                x.linkOf(a, b);
                x.policyOf(a);
            }
        }
    }
}
