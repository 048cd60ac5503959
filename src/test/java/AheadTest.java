/** Promises 35 to 42: what would be, and the simulation. */
public final class AheadTest {
    public static void main(String[] args) {
        refuses();
        forKey();
        victim();
        free();
        loudest();
        quiet();
        simulate();
        simulateTurns();
        Check.end();
    }

    private static void refuses() {
        StolenVoices x = Check.pressed(2, 50);
        for (int bad : new int[] {-1, 60, Integer.MAX_VALUE}) {
            Check.noIndex("voiceFor", x, () -> x.voiceFor(bad));
            Check.noIndex("howFor", x, () -> x.howFor(bad));
        }
        for (int bad : new int[] {-1, 6, Integer.MIN_VALUE}) {
            Check.noIndex("freeByRunning", x, () -> x.freeByRunning(bad));
            Check.noIndex("freeByReckoning", x, () -> x.freeByReckoning(bad));
        }
        Check.noState("voiceFor", x, () -> x.voiceFor(1));
        Check.noArgument("loudestIn(0)", x, () -> x.loudestIn(0));
        Check.noArgument("loudestIn(201)", x, () -> x.loudestIn(201));
        Check.noArgument("simulate(1, 0)", x, () -> x.simulate(1, 0));
        Check.noArgument("simulate(1, 61)", x, () -> x.simulate(1, 61));
        Check.noArgument("simulate(1, -1)", x, () -> x.simulate(1, -1));
        Check.same("they are no actions", 1, x.undo());
    }

    private static void key(StolenVoices x, int key, int how, int voice) {
        Check.same("howFor " + key, how, x.howFor(key));
        Check.same("voiceFor " + key, voice, x.voiceFor(key));
        int got = x.press(key, 50);
        Check.same("and it gets it", voice, got);
        x.undo();
    }

    private static void forKey() {
        StolenVoices x = Check.pressed(5, 50);
        Check.same("down", 4, x.howFor(0));
        key(x, 59, 1, 5);
        x.pass(3);
        x.letGo(3);
        key(x, 3, 0, 3);
        key(x, 59, 1, 5);
        x.press(59, 10);
        key(x, 58, 2, 5);
        key(x, 3, 0, 3);
        x.pass(2);
        key(x, 58, 2, 5);
        x.setRule(1);
        key(x, 58, 2, 0);
        x.setRule(2);
        key(x, 58, 2, 3);
        x.setRule(3);
        key(x, 58, 2, 3);
        x.press(3, 10);
        key(x, 58, 3, -1);
        x.setPedal(true);
        x.letGo(4);
        key(x, 4, 0, 4);
        key(x, 58, 3, -1);
        x.press(58, 3);
        Check.same("down, though it waits", 4, x.howFor(58));
        Check.noState("down, though it waits", x, () -> x.voiceFor(58));
    }

    private static void victim() {
        StolenVoices x = Check.pressed(5, 50);
        Check.same("one is free", -1, x.victim());
        x.press(5, 10);
        x.pass(2);
        Check.same("the lowest", 5, x.victim());
        x.setRule(1);
        Check.same("the oldest", 0, x.victim());
        x.setRule(2);
        Check.same("the oldest of all", 0, x.victim());
        x.setRule(3);
        Check.same("none", -1, x.victim());
        x.letGo(4);
        x.letGo(3);
        Check.same("the oldest that dies", 3, x.victim());
        x.setRule(2);
        Check.same("the oldest that dies", 3, x.victim());
        x.pass(99);
        Check.same("one is free", -1, x.victim());
    }

    private static void freeIn(StolenVoices x, int voice, int want) {
        Check.same("by running", want, x.freeByRunning(voice));
        Check.same("by reckoning", want, x.freeByReckoning(voice));
    }

    private static void free() {
        StolenVoices x = new StolenVoices();
        freeIn(x, 0, 0);
        x.press(0, 100);
        freeIn(x, 0, 1);
        x.pass(5);
        freeIn(x, 0, 20);
        x.setStaying(60, 1);
        freeIn(x, 0, 1000);
        x.setStaying(60, 1000);
        freeIn(x, 0, 1);
        x.setStaying(60, 999);
        freeIn(x, 0, 2);
        x.setStaying(60, 333);
        freeIn(x, 0, 4);
        x.setStaying(60, 334);
        freeIn(x, 0, 3);
        Check.same("it goes on", 2, x.phaseOf(0));
        x.letGo(0);
        x.pass(1);
        freeIn(x, 0, 2);
        x.pass(2);
        freeIn(x, 0, 0);
        freeIn(x, 5, 0);
        for (int dying = 1; dying <= 1000; dying += 37) {
            for (int strength = 1; strength <= 100; strength += 9) {
                StolenVoices y = new StolenVoices();
                y.setStaying(60, dying);
                y.press(0, strength);
                y.pass(strength % 7 + 1);
                int want = y.freeByRunning(0);
                freeIn(y, 0, want);
                y.letGo(0);
                if (want > 1 && want < 100) {
                    Check.same("not yet", 0, y.pass(want - 1));
                    Check.same("now", 1, y.pass(1));
                }
            }
        }
    }

    private static void loudest() {
        StolenVoices x = new StolenVoices();
        Check.same("silent", 0, x.loudestIn(200));
        x.press(0, 100);
        Check.same("in 1", 200, x.loudestIn(1));
        Check.same("in 4", 800, x.loudestIn(4));
        Check.same("in 5", 1000, x.loudestIn(5));
        Check.same("in 200", 1000, x.loudestIn(200));
        x.pass(5);
        Check.same("behind a tick, not now", 900, x.loudestIn(1));
        Check.same("behind a tick, not now", 900, x.loudestIn(200));
        x.letGo(0);
        Check.same("dying", 950, x.loudestIn(200));
        Check.same("nothing passed", 5, x.ticks());
        StolenVoices y = Check.pressed(7, 10);
        y.setRule(1);
        for (int k = 1; k < 7; k++) {
            y.letGo(k);
        }
        Check.same("all die at 0", 0, y.loudestIn(200));
        y.setComingBack(true);
        Check.same("0 comes back behind the first tick", 0, y.loudestIn(1));
        Check.same("0 comes back", 100, y.loudestIn(2));
    }

    private static void quiet() {
        StolenVoices x = new StolenVoices();
        Check.same("quiet", 0, x.quietIn());
        x.press(0, 100);
        Check.same("a tick even at 0", 1, x.quietIn());
        x.pass(4);
        x.press(1, 50);
        Check.same("800, 50 a tick", 16, x.quietIn());
        x.setPedal(true);
        x.letGo(0);
        Check.same("the pedal would be lifted", 16, x.quietIn());
        x.setComingBack(true);
        x.setRule(1);
        for (int k = 2; k < 8; k++) {
            x.press(k, 90);
        }
        Check.same("1 waits, but would be let go", 1, x.quietIn());
        x.setStaying(60, 1);
        x.pass(5);
        Check.same("900, 1 a tick", 900, x.quietIn());
        Check.same("nothing passed", 9, x.ticks());
    }

    private static void simulate() {
        StolenVoices x = new StolenVoices();
        x.setStaying(0, 1000);
        x.setRising(1000, 1000);
        x.press(1, 100);
        x.pass(3);
        x.letGo(1);
        x.pass(1);
        Check.same("simulate(1, 60)", 170000, x.simulate(1, 60));
        Check.same("simulate(1, 60) again", 170000, x.simulate(1, 60));
        Check.same("simulate(99, 40)", 162306, Check.playing(
            "Vs0p00100p00100r01dp01050p02040p03030p04020p05010r05up06100s1p07001t99").simulate(99, 40));
    }

    /** The turns done by the calls themselves, on an object that is the same otherwise. */
    private static void simulateTurns() {
        long[] seeds = {0, 1, -1, 99, Long.MAX_VALUE, Long.MIN_VALUE, 123456789012345L};
        for (long seed : seeds) {
            for (int m = 1; m <= 60; m++) {
                StolenVoices x = Check.playing("Vs3p00100p01050p02040p03030p04020p05010p06100dr01t03");
                int want = x.simulate(seed, m);
                Check.same("simulate(" + seed + ", " + m + ")", byCalls(x, seed, m), want);
            }
        }
    }

    private static int byCalls(StolenVoices x, long seed, int m) {
        int before = x.notesByBeginning();
        long state = seed;
        for (int n = 0; n < m; n++) {
            state = state * 6364136223846793005L + 1442695040888963407L;
            int r = (int) (state >>> 33);
            int q = r / 16;
            Check.answer(() -> turn(x, r % 16, q));
        }
        return 10000 * (x.notesByBeginning() - before) + x.loudnessByPhases();
    }

    private static int turn(StolenVoices x, int kind, int q) {
        switch (kind) {
            case 0: case 1: case 2: case 3: case 4: case 5:
                return x.press(q % 60, 1 + (q / 64) % 100);
            case 6: case 7: case 8: case 9:
                return x.letGo(q % 60);
            case 10:
                return x.setPedal(q % 2 == 0);
            case 11:
                return x.setRule(q % 4);
            case 12:
                return x.setComingBack(q % 2 == 0);
            default:
                return x.pass(1 + q % 9);
        }
    }
}
