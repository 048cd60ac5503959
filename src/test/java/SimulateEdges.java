import java.math.BigInteger;
import java.util.function.IntPredicate;

/** Promise 42, sentence by sentence: the simulation. */
final class SimulateEdges {
    private static final String PART = "Promise 42";
    private static final long FACTOR = 6364136223846793005L;
    private static final long ADDEND = 1442695040888963407L;
    private static final long INVERSE = BigInteger.valueOf(FACTOR).modInverse(BigInteger.ONE.shiftLeft(64)).longValue();
    private static final int LONGEST_PASS = 8;

    private SimulateEdges() {
    }

    static void all() {
        Sentence.holds(PART, "Simulates m turns on a copy of the state", SimulateEdges::onACopy);
        Sentence.holds(PART, "A long x starts as the seed", SimulateEdges::startsAsSeed);
        Sentence.holds(PART, "Each turn first replaces x by x * 6364136223846793005L + 1442695040888963407L",
            SimulateEdges::replacesFirst);
        Sentence.holds(PART, "(with long overflow)", SimulateEdges::overflow);
        Sentence.holds(PART, "and r = (int) (x >>> 33) is computed", SimulateEdges::shifted);
        Sentence.holds(PART, "q is r / 16", SimulateEdges::sixteenth);
        Sentence.holds(PART, "0 to 5: press(q % 60", SimulateEdges::presses);
        Sentence.holds(PART, "1 + q / 64 % 100)", SimulateEdges::strengths);
        Sentence.holds(PART, "6 to 9: letGo(q % 60)", SimulateEdges::letsGo);
        Sentence.holds(PART, "10: setPedal(whether q % 2 is 0)", SimulateEdges::pedals);
        Sentence.holds(PART, "11: setRule(q % 4)", SimulateEdges::rules);
        Sentence.holds(PART, "12: setComingBack(whether q % 2 is 0)", SimulateEdges::comesBack);
        Sentence.holds(PART, "Otherwise: pass(1 + q % 9)", SimulateEdges::passes);
        Sentence.holds(PART, "What would throw an exception is left out", SimulateEdges::leftOut);
        Sentence.holds(PART, "any long", SimulateEdges::anySeed);
        Sentence.holds(PART, "number of turns, 1 to 60", SimulateEdges::turns);
        Sentence.holds(PART, "10000 * (the notes that begin in the turns)", SimulateEdges::notes);
        Sentence.holds(PART, "+ (the loudness at the end)", SimulateEdges::loudness);
        Sentence.holds(PART, "if m is out of range", SimulateEdges::refuses);
    }

    // ---- seeds

    /** The seed that the first turn replaces by x. */
    private static long seedBefore(long x) {
        return (x - ADDEND) * INVERSE;
    }

    private static int rOf(int kind, int q) {
        return 16 * q + kind;
    }

    /** A seed whose first turn has r, and the next ones what is asked for. */
    private static long seedFor(int r, IntPredicate... next) {
        for (long low = 0; low < 1L << 33; low++) {
            long x = ((long) r << 33) + low;
            if (follows(x, next)) {
                return seedBefore(x);
            }
        }
        throw new IllegalStateException("there is no such seed");
    }

    private static boolean follows(long first, IntPredicate... next) {
        long x = first;
        for (IntPredicate turn : next) {
            x = x * FACTOR + ADDEND;
            if (!turn.test((int) (x >>> 33))) {
                return false;
            }
        }
        return true;
    }

    private static boolean isPassOf9(int r) {
        return r % 16 >= 13 && r / 16 % 9 == LONGEST_PASS;
    }

    private static IntPredicate pressOf(int key) {
        return r -> r % 16 <= 5 && r / 16 % 60 == key;
    }

    private static IntPredicate letGoOf(int key) {
        return r -> r % 16 >= 6 && r % 16 <= 9 && r / 16 % 60 == key;
    }

    // ---- the copy, the seed

    private static void onACopy() {
        for (int m : new int[] {1, 2, 30, 60}) {
            for (long seed : new long[] {0, 1, -1, Long.MAX_VALUE}) {
                Twins.changesNothing(Twins::full, x -> x.simulate(seed, m));
            }
        }
        StolenVoices x = new StolenVoices();
        long seed = seedFor(rOf(0, 3), pressOf(4), pressOf(5));
        Check.same("one turn", 10000, x.simulate(seed, 1));
        Check.same("two turns", 20000, x.simulate(seed, 2));
        Check.same("three turns", 30000, x.simulate(seed, 3));
        Check.same("the same again", 30000, x.simulate(seed, 3));
        Check.same("no key is down", 0, x.keysDown());
        Check.same("it is no action", "IllegalStateException", Check.answer(x::undo));
    }

    private static void startsAsSeed() {
        for (int r : new int[] {0, 5, 6, 15, 16, 1 << 30, Integer.MAX_VALUE}) {
            StolenVoices x = Check.pressed(1, 100);
            Check.same("r " + r, byCalls(Check.pressed(1, 100), seedFor(r), 1), x.simulate(seedFor(r), 1));
        }
        StolenVoices x = Check.pressed(1, 100);
        Check.same("the seed 0: r is 167951807, pass(9)", 600, x.simulate(0, 1));
    }

    private static void replacesFirst() {
        // Were x not replaced first, the seed itself would be the first x.
        StolenVoices x = Check.pressed(1, 100);
        long pass9 = (long) rOf(13, LONGEST_PASS) << 33;
        Check.same("x is replaced before the first turn", 600, x.simulate(seedBefore(pass9), 1));
        long seed = 0;
        for (int n = 0; n < 60; n++) {
            Check.same("a turn's x is the next one's", byCalls(Twins.full(), seed, 2), Twins.full().simulate(seed, 2));
            seed = seed * FACTOR + ADDEND;
        }
    }

    private static void overflow() {
        // x is the greatest long, without and with overflow of the sum: r is 2^30 - 1, and 2^30.
        StolenVoices x = Check.pressed(1, 100);
        long greatest = (Long.MAX_VALUE - ADDEND) * INVERSE;
        Check.same("the greatest sum, pass(4)", 800, x.simulate(greatest, 1));
        long over = (Long.MAX_VALUE - ADDEND + 1) * INVERSE;
        Check.same("the sum runs over, press(4, 77)", 10000, x.simulate(over, 1));
        long product = Long.MAX_VALUE * INVERSE;
        long[] seeds = {2, -2, 3, greatest, over, product, product + 1, Long.MAX_VALUE, Long.MIN_VALUE,
            Long.MAX_VALUE / 2 + 1, Long.MIN_VALUE / 2 - 1, FACTOR, -FACTOR, INVERSE};
        for (long seed : seeds) {
            Check.same("seed " + seed, byCalls(Twins.full(), seed, 60), Twins.full().simulate(seed, 60));
        }
    }

    private static void shifted() {
        StolenVoices x = Check.pressed(1, 100);
        Check.same("x is -1: r is the greatest int, pass(8)", 700, x.simulate(seedBefore(-1), 1));
        Check.same("x is 0: r is 0, press(0, 1) is left out", 0, x.simulate(seedBefore(0), 1));
        long pass1 = (long) rOf(13, 0) << 33;
        Check.same("the least x with r 13, pass(1)", 200, x.simulate(seedBefore(pass1), 1));
        Check.same("the greatest x with r 13", 200, x.simulate(seedBefore(pass1 + (1L << 33) - 1), 1));
        Check.same("the x below it: r 12, setComingBack", 0, x.simulate(seedBefore(pass1 - 1), 1));
        Check.same("the least long: r is 2^30, press(4, 77)", 10000, x.simulate(seedBefore(Long.MIN_VALUE), 1));
    }

    private static void sixteenth() {
        StolenVoices x = Check.pressed(1, 100);
        Check.same("r 15: q 0", 200, x.simulate(seedFor(15), 1));
        Check.same("r 31: q 1", 400, x.simulate(seedFor(31), 1));
        Check.same("r 29: q 1", 400, x.simulate(seedFor(29), 1));
        Check.same("r 16: q 1, press(1, 1)", 10000, x.simulate(seedFor(16), 1));
        Check.same("r 0: q 0, press(0, 1) is left out", 0, x.simulate(seedFor(0), 1));
    }

    // ---- the turns

    /** All keys are down but one, and no voice dies away. */
    private static StolenVoices onlyUp(int key) {
        StolenVoices x = new StolenVoices();
        for (int k = 0; k < 60; k++) {
            if (k != key) {
                x.press(k, 50);
            }
        }
        return x;
    }

    private static void presses() {
        for (int kind = 0; kind <= 5; kind++) {
            Check.same("kind " + kind, 10000, new StolenVoices().simulate(seedFor(rOf(kind, 7)), 1));
        }
        for (int key : new int[] {0, 1, 30, 59}) {
            StolenVoices x = onlyUp(key);
            for (int q : new int[] {key, key + 60, key + 60 * 2236962 - 60}) {
                Check.same("the key of q " + q, 10000, x.simulate(seedFor(rOf(q % 6, q)), 1));
                int other = q > 0 ? q - 1 : q + 61;
                Check.same("the key of q " + other, 0, x.simulate(seedFor(rOf(q % 6, other)), 1));
                Check.same("the key of q " + (q + 1), 0, x.simulate(seedFor(rOf(q % 6, q + 1)), 1));
            }
        }
    }

    private static void strengths() {
        int[][] due = {{0, 1}, {63, 1}, {64, 2}, {127, 2}, {6335, 99}, {6336, 100}, {6399, 100}, {6400, 1},
            {6463, 1}, {6464, 2}, {134217727, 52}};
        for (int[] d : due) {
            StolenVoices x = new StolenVoices();
            long seed = seedFor(rOf(0, d[0]), SimulateEdges::isPassOf9);
            Check.same("q " + d[0] + ", and 9 ticks to the rest", 10000 + 6 * d[1], x.simulate(seed, 2));
        }
    }

    private static void letsGo() {
        StolenVoices x = Check.pressed(1, 100);
        x.pass(5);
        for (int kind = 6; kind <= 9; kind++) {
            for (int q : new int[] {0, 60, 6000}) {
                long seed = seedFor(rOf(kind, q), SimulateEdges::isPassOf9);
                Check.same("kind " + kind + ", q " + q, 550, x.simulate(seed, 2));
            }
        }
        x.letGo(0);
        x.setStaying(60, 1000);
        x.pass(1);
        x.setStaying(60, 50);
        x.press(59, 100);
        x.pass(5);
        for (int q : new int[] {59, 119}) {
            long seed = seedFor(rOf(6, q), SimulateEdges::isPassOf9);
            Check.same("the last key, q " + q, 550, x.simulate(seed, 2));
        }
        for (int q : new int[] {58, 60, 118, 120}) {
            long seed = seedFor(rOf(9, q), SimulateEdges::isPassOf9);
            Check.same("another key, q " + q, 600, x.simulate(seed, 2));
        }
    }

    private static void pedals() {
        StolenVoices kept = Check.pressed(1, 100);
        kept.pass(5);
        kept.setPedal(true);
        kept.letGo(0);
        StolenVoices up = Check.pressed(1, 100);
        up.pass(5);
        for (int q : new int[] {0, 1, 2, 3, 134217726, 134217727}) {
            boolean down = q % 2 == 0;
            long seed = seedFor(rOf(10, q), SimulateEdges::isPassOf9);
            Check.same("a kept one, q " + q, down ? 600 : 550, kept.simulate(seed, 2));
            long lets = seedFor(rOf(10, q), letGoOf(0), SimulateEdges::isPassOf9);
            Check.same("one let go, q " + q, down ? 600 : 550, up.simulate(lets, 3));
        }
    }

    private static void rules() {
        // The voice 0 is the oldest, at 900, 5 dies at 50, and 4 is the lowest.
        StolenVoices x = new StolenVoices();
        x.setStaying(60, 1);
        x.press(0, 100);
        for (int v = 1; v <= 4; v++) {
            x.press(v, v == 4 ? 1 : 50);
        }
        x.press(5, 20);
        x.pass(6);
        x.letGo(5);
        Check.same("levels", "[900, 300, 300, 300, 6, 120]", Check.levels(x));
        int[] lost = {6, 900, 120, 120};
        for (int rule = 0; rule <= 3; rule++) {
            for (int q : new int[] {rule, rule + 4, rule + 134217724}) {
                long seed = seedFor(rOf(11, q), pressOf(40));
                Check.same("q " + q + ", one dies", 10000 + 1926 - lost[rule], x.simulate(seed, 2));
            }
        }
        x.press(5, 100);
        int[] then = {10000 + 1920, 10000 + 1026, 10000 + 1026, 1926};
        for (int rule = 0; rule <= 3; rule++) {
            long seed = seedFor(rOf(11, rule), pressOf(40));
            Check.same("rule " + rule + ", none dies", then[rule], x.simulate(seed, 2));
        }
        Check.same("the rule is as it was", 0, x.rule());
    }

    private static void comesBack() {
        StolenVoices off = Check.pressed(7, 100);
        off.letGo(3);
        StolenVoices on = Check.pressed(7, 100);
        on.setComingBack(true);
        on.letGo(3);
        for (int q : new int[] {0, 1, 2, 3, 134217726, 134217727}) {
            long seed = seedFor(rOf(12, q), SimulateEdges::isPassOf9);
            // The others come to 600 in nine ticks, the one that is back has eight and comes to 700.
            int want = q % 2 == 0 ? 10000 + 5 * 600 + 700 : 5 * 600;
            Check.same("off, q " + q, want, off.simulate(seed, 2));
            Check.same("on, q " + q, want, on.simulate(seed, 2));
        }
    }

    private static void passes() {
        StolenVoices x = new StolenVoices();
        x.setRising(100, 1);
        x.press(0, 100);
        for (int kind = 13; kind <= 15; kind++) {
            for (int q = 0; q <= 18; q++) {
                int want = 100 * (1 + q % 9);
                Check.same("kind " + kind + ", q " + q, want, x.simulate(seedFor(rOf(kind, q)), 1));
            }
            Check.same("the greatest q", 800, x.simulate(seedFor(rOf(kind, 134217727)), 1));
        }
        Check.same("no tick has passed", 0, x.ticks());
    }

    private static void leftOut() {
        StolenVoices x = Check.pressed(1, 100);
        x.pass(5);
        Check.same("a key that is down", 1000, x.simulate(seedFor(rOf(0, 0)), 1));
        long again = seedFor(rOf(3, 0), SimulateEdges::isPassOf9);
        Check.same("it does not begin anew: it falls, and does not rise before", 600, x.simulate(again, 2));
        long up = seedFor(rOf(6, 1), SimulateEdges::isPassOf9);
        Check.same("a key that is up", 600, x.simulate(up, 2));
        long twice = seedFor(rOf(1, 5), pressOf(5), letGoOf(5), letGoOf(5));
        Check.same("one that the turns pressed", 11000, x.simulate(twice, 2));
        Check.same("one that the turns let go", 11000, x.simulate(twice, 4));
        Check.same("a turn that is left out is a turn", 11000, x.simulate(twice, 1));
    }

    private static void anySeed() {
        long[] seeds = {0, 1, -1, 42, Long.MAX_VALUE, Long.MIN_VALUE, Long.MAX_VALUE - 1, Long.MIN_VALUE + 1,
            Integer.MAX_VALUE, Integer.MIN_VALUE, 1L << 32, 1L << 33, -(1L << 33)};
        for (long seed : seeds) {
            for (int m : new int[] {1, 59, 60}) {
                Check.same("seed " + seed, byCalls(Twins.full(), seed, m), Twins.full().simulate(seed, m));
                Check.same("seed " + seed, byCalls(new StolenVoices(), seed, m), new StolenVoices().simulate(seed, m));
            }
        }
    }

    private static void turns() {
        StolenVoices x = new StolenVoices();
        long seed = seedFor(rOf(0, 0), pressOf(1));
        Check.same("the least", 10000, x.simulate(seed, 1));
        // A seed whose 60th turn presses a key that no voice has, so that 59 and 60 turns differ.
        int differ = 0;
        for (long s = 0; s < 20; s++) {
            int less = x.simulate(s, 59);
            int greatest = x.simulate(s, 60);
            Check.same("59 turns of " + s, byCalls(new StolenVoices(), s, 59), less);
            Check.same("60 turns of " + s, byCalls(new StolenVoices(), s, 60), greatest);
            differ += less == greatest ? 0 : 1;
        }
        Check.same("the 60th turn counts", true, differ > 3);
    }

    private static void notes() {
        StolenVoices x = Check.pressed(6, 100);
        Check.same("not those from before", 0, x.simulate(seedFor(rOf(6, 0)), 1));
        Check.same("a stolen voice's new note", 10000, x.simulate(seedFor(rOf(0, 7)), 1));
        x.setRule(3);
        Check.same("not a refused one", 0, x.simulate(seedFor(rOf(0, 7)), 1));
        x.letGo(0);
        Check.same("not of a voice that begins anew", 0, x.simulate(seedFor(rOf(0, 0)), 1));
        Check.same("a stolen voice's new note, by the rule 3", 10000, x.simulate(seedFor(rOf(0, 7)), 1));
        StolenVoices y = Check.pressed(8, 100);
        y.setComingBack(true);
        y.letGo(6);
        y.letGo(7);
        Check.same("those that come back", 20000 + 4 * 600 + 2 * 700, y.simulate(seedFor(rOf(13, LONGEST_PASS)), 1));
    }

    private static void loudness() {
        Check.same("silence", 0, new StolenVoices().simulate(seedFor(rOf(13, 0)), 1));
        StolenVoices x = Check.pressed(6, 100);
        x.pass(4);
        Check.same("as loud as it gets", 6000, x.simulate(seedFor(rOf(13, 0)), 1));
        Check.same("behind the last tick", 3600, x.simulate(seedFor(rOf(13, LONGEST_PASS)), 1));
        Check.same("without a tick", 4800, x.simulate(seedFor(rOf(10, 0)), 1));
        Check.same("without the stolen one", 10000 + 4000, x.simulate(seedFor(rOf(0, 7)), 1));
    }

    private static void refuses() {
        for (int bad : new int[] {0, 61, -1, Integer.MIN_VALUE, Integer.MAX_VALUE}) {
            for (long seed : new long[] {0, Long.MIN_VALUE, Long.MAX_VALUE}) {
                Twins.noArgument(Twins::full, x -> x.simulate(seed, bad));
                Twins.noArgument(StolenVoices::new, x -> x.simulate(seed, bad));
            }
        }
    }

    // ---- the turns by the calls themselves, with whole numbers that never run over

    private static int byCalls(StolenVoices x, long seed, int m) {
        BigInteger range = BigInteger.ONE.shiftLeft(64);
        BigInteger state = BigInteger.valueOf(seed);
        int before = x.notesByBeginning();
        for (int n = 0; n < m; n++) {
            state = state.multiply(BigInteger.valueOf(FACTOR)).add(BigInteger.valueOf(ADDEND)).mod(range);
            int r = state.shiftRight(33).intValueExact();
            Check.answer(() -> turn(x, r % 16, r / 16));
        }
        return 10000 * (x.notesByBeginning() - before) + x.loudnessByVoices();
    }

    private static int turn(StolenVoices x, int kind, int q) {
        return switch (kind) {
            case 0, 1, 2, 3, 4, 5 -> x.press(q % 60, 1 + q / 64 % 100);
            case 6, 7, 8, 9 -> x.letGo(q % 60);
            case 10 -> x.setPedal(q % 2 == 0);
            case 11 -> x.setRule(q % 4);
            case 12 -> x.setComingBack(q % 2 == 0);
            default -> x.pass(1 + q % 9);
        };
    }
}
