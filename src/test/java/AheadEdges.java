import java.util.function.Supplier;

/** The promises 35 to 41, sentence by sentence: what would be. */
final class AheadEdges {
    private static final int[] NO_KEYS = {-1, 60, Integer.MIN_VALUE, Integer.MAX_VALUE};
    private static final int[] NO_VOICES = {-1, 6, Integer.MIN_VALUE, Integer.MAX_VALUE};

    private AheadEdges() {
    }

    static void all() {
        voiceFor();
        howFor();
        victim();
        freeByRunning();
        freeByReckoning();
        loudestIn();
        quietIn();
    }

    /** No voice is free; 1 and 4 die away, 2 and 3 are kept, the lowest is 5. */
    private static StolenVoices mixed(int rule) {
        StolenVoices x = Check.pressed(5, 100);
        x.pass(5);
        x.press(5, 10);
        x.letGo(4);
        x.letGo(1);
        x.setPedal(true);
        x.letGo(3);
        x.letGo(2);
        x.pass(1);
        x.setRule(rule);
        return x;
    }

    /** No voice is free, and none dies away. */
    private static StolenVoices noneDies(int rule) {
        StolenVoices x = Check.pressed(6, 100);
        x.setRule(rule);
        return x;
    }

    // ---- promise 35

    private static void voiceFor() {
        Sentence.holds("Promise 35", "Tells which voice a key would get if it were pressed now", () -> {
            Check.same("a dying one", 1, Twins.some().voiceFor(1));
            Check.same("a kept one", 2, Twins.some().voiceFor(2));
            Check.same("a free one", 4, Twins.some().voiceFor(40));
            int[] due = {5, 0, 1, 1};
            for (int rule = 0; rule <= 3; rule++) {
                Check.same("a stolen one by the rule " + rule, due[rule], mixed(rule).voiceFor(40));
                Check.same("its own, whatever the rule", 4, mixed(rule).voiceFor(4));
                Check.same("its own, whatever the rule", 3, mixed(rule).voiceFor(3));
            }
            asPressed(Twins::some);
            asPressed(Twins::full);
            asPressed(() -> mixed(0));
            asPressed(() -> noneDies(3));
            Twins.changesNothing(Twins::full, x -> x.voiceFor(40));
        });
        Sentence.holds("Promise 35", "0 to 59", () -> {
            StolenVoices x = new StolenVoices();
            Check.same("the least", 0, x.voiceFor(0));
            Check.same("the greatest", 0, x.voiceFor(59));
            x.press(59, 1);
            x.letGo(59);
            Check.same("the least", 1, x.voiceFor(0));
            Check.same("the greatest", 0, x.voiceFor(59));
        });
        Sentence.holds("Promise 35", "Returns the voice; NONE if it would get none", () -> {
            Check.same("none dies", StolenVoices.NONE, noneDies(3).voiceFor(40));
            Check.same("by another rule", 0, noneDies(2).voiceFor(40));
            StolenVoices x = noneDies(3);
            x.letGo(5);
            Check.same("one dies", 5, x.voiceFor(40));
        });
        Sentence.holds("Promise 35", "if there is no such key", () -> {
            for (int bad : NO_KEYS) {
                Twins.noIndex(Twins::full, x -> x.voiceFor(bad));
                Twins.noIndex(StolenVoices::new, x -> x.voiceFor(bad));
            }
        });
        Sentence.holds("Promise 35", "if it is down", () -> {
            Twins.noState(Twins::full, x -> x.voiceFor(0));
            Twins.noState(Twins::full, x -> x.voiceFor(7));
            Twins.noState(Twins::some, x -> x.voiceFor(3));
        });
    }

    private static void asPressed(Supplier<StolenVoices> maker) {
        StolenVoices asked = maker.get();
        for (int key = 0; key < 60; key++) {
            if (!asked.isDown(key)) {
                Check.same("as key " + key + " gets", maker.get().press(key, 1), asked.voiceFor(key));
            }
        }
    }

    // ---- promise 36

    private static void howFor() {
        Sentence.holds("Promise 36", "Tells how a key would get a voice if it were pressed now", () -> {
            Check.same("some", "4 0 0 4 1 1", how(Twins.some()));
            Check.same("full", "4 3 0 4 4 4", how(Twins.full()));
            Twins.changesNothing(Twins::full, x -> x.howFor(40));
        });
        Sentence.holds("Promise 36", "0 to 59", () -> {
            StolenVoices x = new StolenVoices();
            x.press(59, 1);
            Check.same("the least", 1, x.howFor(0));
            Check.same("the greatest", 4, x.howFor(59));
            x.press(0, 1);
            Check.same("the least", 4, x.howFor(0));
        });
        Sentence.holds("Promise 36", "Returns 0 if a voice has it already", () -> {
            for (int rule = 0; rule <= 3; rule++) {
                Check.same("a dying one", 0, mixed(rule).howFor(1));
                Check.same("a kept one", 0, mixed(rule).howFor(2));
            }
            Check.same("though others are free", 0, Twins.some().howFor(1));
        });
        Sentence.holds("Promise 36", "1 if a free one would begin", () -> {
            Check.same("all are free", 1, new StolenVoices().howFor(0));
            Check.same("one is free", 1, Check.pressed(5, 1).howFor(5));
            StolenVoices x = Check.pressed(5, 1);
            x.setRule(3);
            Check.same("by the rule 3, too", 1, x.howFor(5));
        });
        Sentence.holds("Promise 36", "2 if one would be stolen", () -> {
            for (int rule = 0; rule <= 3; rule++) {
                Check.same("some die, rule " + rule, 2, mixed(rule).howFor(40));
            }
            for (int rule = 0; rule <= 2; rule++) {
                Check.same("none dies, rule " + rule, 2, noneDies(rule).howFor(40));
            }
        });
        Sentence.holds("Promise 36", "3 if it would get none", () -> {
            Check.same("none dies, rule 3", 3, noneDies(3).howFor(40));
            Check.same("none dies, rule 3", 3, noneDies(3).howFor(59));
        });
        Sentence.holds("Promise 36", "4 if it is down", () -> {
            Check.same("though a voice has it already", 4, noneDies(0).howFor(0));
            Check.same("though others are free", 4, Check.pressed(1, 1).howFor(0));
            Check.same("though it waits", 4, Twins.full().howFor(7));
            Check.same("though it would get none", 4, noneDies(3).howFor(5));
        });
        Sentence.holds("Promise 36", "if there is no such key", () -> {
            for (int bad : NO_KEYS) {
                Twins.noIndex(Twins::full, x -> x.howFor(bad));
                Twins.noIndex(StolenVoices::new, x -> x.howFor(bad));
            }
        });
    }

    private static String how(StolenVoices x) {
        StringBuilder all = new StringBuilder();
        for (int key = 0; key < 6; key++) {
            all.append(key > 0 ? " " : "").append(x.howFor(key));
        }
        return all.toString();
    }

    // ---- promise 37

    private static void victim() {
        Sentence.holds("Promise 37", "the voice that would be stolen if a key that no voice has were pressed", () -> {
            int[] due = {5, 0, 1, 1};
            for (int rule = 0; rule <= 3; rule++) {
                Check.same("by the rule " + rule, due[rule], mixed(rule).victim());
                Check.same("it is stolen", due[rule], mixed(rule).press(40, 1));
            }
            for (int rule = 0; rule <= 2; rule++) {
                Check.same("none dies, rule " + rule, 0, noneDies(rule).victim());
            }
            Check.same("all keys are down", 0, Check.pressed(60, 1).victim());
            Twins.changesNothing(() -> mixed(2), StolenVoices::victim);
        });
        Sentence.holds("Promise 37", "NONE if one is free", () -> {
            for (int rule = 0; rule <= 3; rule++) {
                StolenVoices x = new StolenVoices();
                x.setRule(rule);
                Check.same("all are free", StolenVoices.NONE, x.victim());
                for (int k = 0; k < 5; k++) {
                    x.press(k, 1);
                    x.letGo(k);
                }
                Check.same("one is free, the others die", StolenVoices.NONE, x.victim());
                x.press(5, 1);
                Check.same("none is free", 0, x.victim());
            }
        });
        Sentence.holds("Promise 37", "or none would be stolen", () -> {
            StolenVoices x = noneDies(3);
            Check.same("none dies", StolenVoices.NONE, x.victim());
            x.setPedal(true);
            x.letGo(4);
            Check.same("a kept one does not", StolenVoices.NONE, x.victim());
            x.setPedal(false);
            Check.same("one dies", 4, x.victim());
            x.press(4, 1);
            Check.same("none dies again", StolenVoices.NONE, x.victim());
        });
    }

    // ---- promises 38 and 39

    private static void freeIn(String what, int want, StolenVoices x, int voice) {
        Check.same(what + ", by running", want, x.freeByRunning(voice));
        Check.same(what + ", by reckoning", want, x.freeByReckoning(voice));
    }

    /** Voice 0 is at the level, and would die away by so much in a tick. */
    private static StolenVoices dyingFrom(int level, int dying) {
        StolenVoices x = new StolenVoices();
        x.setRising(level, 1);
        x.setStaying(60, dying);
        x.press(0, 100);
        x.pass(1);
        Check.same("it is there", level, x.levelOf(0));
        return x;
    }

    private static void freeByRunning() {
        Sentence.holds("Promise 38", "Tells after how many ticks a voice would be free", () -> {
            freeFrom(1, 1, 1);
            freeFrom(1, 1000, 1);
            freeFrom(1000, 1, 1000);
            freeFrom(999, 1, 999);
            freeFrom(1000, 999, 2);
            freeFrom(1000, 1000, 1);
            freeFrom(1000, 500, 2);
            freeFrom(1000, 501, 2);
            freeFrom(1000, 499, 3);
            freeFrom(49, 50, 1);
            freeFrom(50, 50, 1);
            freeFrom(51, 50, 2);
            freeFrom(100, 50, 2);
            freeFrom(101, 50, 3);
            freeFrom(99, 33, 3);
            freeFrom(98, 33, 3);
            freeFrom(100, 33, 4);
        });
        Sentence.holds("Promise 38", "if it died away from now on", () -> {
            StolenVoices x = Check.pressed(1, 100);
            freeIn("rising, at 0", 1, x, 0);
            x.pass(1);
            freeIn("rising", 4, x, 0);
            x.pass(5);
            freeIn("falling", 18, x, 0);
            x.pass(9);
            freeIn("staying", 12, x, 0);
            x.setPedal(true);
            x.letGo(0);
            freeIn("kept", 12, x, 0);
            x.setPedal(false);
            x.pass(1);
            freeIn("dying", 11, x, 0);
            x.pass(10);
            freeIn("its last tick", 1, x, 0);
            StolenVoices y = Check.pressed(1, 1);
            y.setStaying(0, 50);
            y.pass(2);
            Check.same("it stays at 0", 3, y.phaseOf(0));
            freeIn("staying at 0", 1, y, 0);
            StolenVoices z = Check.pressed(7, 100);
            z.setComingBack(true);
            freeIn("though a key would come back to it", 1, z, 3);
        });
        Sentence.holds("Promise 38", "found by running it", () -> {
            Twins.changesNothing(Twins::some, x -> x.freeByRunning(0));
            Twins.changesNothing(Twins::full, x -> x.freeByRunning(5));
        });
        Sentence.holds("Promise 38", "0 to 5", AheadEdges::firstAndLastVoice);
        Sentence.holds("Promise 38", "Returns how many; 0 if it is free", () -> {
            for (int v = 0; v < 6; v++) {
                freeIn("all are free", 0, new StolenVoices(), v);
            }
            StolenVoices x = Check.pressed(5, 1);
            freeIn("at 0, but not free", 1, x, 4);
            freeIn("free", 0, x, 5);
            x.letGo(0);
            freeIn("not yet", 1, x, 0);
            x.pass(1);
            freeIn("it has become free", 0, x, 0);
        });
        Sentence.holds("Promise 38", "if there is no such voice", () -> {
            for (int bad : NO_VOICES) {
                Twins.noIndex(Twins::full, x -> x.freeByRunning(bad));
            }
        });
    }

    /** The two ways agree, and the voice really becomes free then. */
    private static void freeFrom(int level, int dying, int want) {
        StolenVoices x = dyingFrom(level, dying);
        freeIn(level + " by " + dying, want, x, 0);
        x.letGo(0);
        for (int n = 1; n < want && n < 200; n++) {
            Check.same("not in tick " + n, 0, x.pass(1));
        }
        if (want < 200) {
            Check.same("in tick " + want, 1, x.pass(1));
        }
    }

    private static void firstAndLastVoice() {
        StolenVoices x = Check.pressed(6, 100);
        x.pass(1);
        x.setStaying(60, 1000);
        x.letGo(0);
        x.letGo(5);
        x.pass(1);
        freeIn("the least", 0, x, 0);
        freeIn("the greatest", 0, x, 5);
        freeIn("between", 1, x, 1);
        x.press(50, 9);
        freeIn("the least", 1, x, 0);
        x.press(51, 9);
        freeIn("the greatest", 1, x, 5);
    }

    private static void freeByReckoning() {
        Sentence.holds("Promise 39", "found by reckoning with its level", () -> {
            for (int dying : new int[] {1, 2, 3, 7, 49, 50, 51, 99, 333, 334, 500, 999, 1000}) {
                for (int level : new int[] {1, 2, 3, 6, 7, 8, 50, 98, 99, 100, 333, 334, 667, 999, 1000}) {
                    int want = 0;
                    for (int left = level; left > 0; left -= dying) {
                        want++;
                    }
                    Check.same(level + " by " + dying, want, dyingFrom(level, dying).freeByReckoning(0));
                }
            }
            Twins.changesNothing(Twins::full, x -> x.freeByReckoning(2));
        });
        Sentence.holds("Promise 39", "0 to 5", () -> {
            StolenVoices x = Check.pressed(6, 1);
            Check.same("the least", 1, x.freeByReckoning(0));
            Check.same("the greatest", 1, x.freeByReckoning(5));
        });
        Sentence.holds("Promise 39", "Returns the same as freeByRunning()", () -> {
            StolenVoices x = Twins.full();
            for (int n = 0; n < 30; n++) {
                for (int v = 0; v < 6; v++) {
                    Check.same("voice " + v + " in tick " + n, x.freeByRunning(v), x.freeByReckoning(v));
                }
                x.pass(1);
                x.setPedal(false);
            }
        });
        Sentence.holds("Promise 39", "if there is no such voice", () -> {
            for (int bad : NO_VOICES) {
                Twins.noIndex(Twins::full, x -> x.freeByReckoning(bad));
            }
        });
    }

    // ---- promise 40

    private static void loudestIn() {
        Sentence.holds("Promise 40", "Tells how loud it gets", () -> {
            Check.same("all are free", 0, new StolenVoices().loudestIn(200));
            Check.same("all at their peaks", 6000, Check.pressed(6, 100).loudestIn(200));
            StolenVoices x = Check.pressed(1, 100);
            x.pass(3);
            x.press(1, 50);
            Check.same("800 and 200, 1000 and 400, 900 and 500", 1400, x.loudestIn(3));
        });
        Sentence.holds("Promise 40", "if only ticks pass", () -> {
            StolenVoices x = Check.pressed(1, 100);
            x.pass(5);
            x.setPedal(true);
            x.letGo(0);
            Check.same("a kept one falls only", 900, x.loudestIn(200));
            x.setPedal(false);
            Check.same("a dying one dies", 950, x.loudestIn(200));
            StolenVoices y = Check.pressed(7, 100);
            y.letGo(1);
            Check.same("the key 0 does not come back", 5000, y.loudestIn(200));
            y.setComingBack(true);
            Check.same("it comes back a tick later: 5 * 1000 + 800, 5 * 900 + 1000", 5800, y.loudestIn(200));
            Check.same("no tick has passed", 0, y.ticks());
            Check.same("it still waits", 1, y.keysWaiting());
            Twins.changesNothing(Twins::full, z -> z.loudestIn(200));
        });
        Sentence.holds("Promise 40", "1 to 200", () -> {
            StolenVoices x = new StolenVoices();
            x.setRising(5, 1);
            x.press(0, 100);
            Check.same("the least", 5, x.loudestIn(1));
            Check.same("two", 10, x.loudestIn(2));
            Check.same("one less than the greatest", 995, x.loudestIn(199));
            Check.same("the greatest", 1000, x.loudestIn(200));
        });
        Sentence.holds("Promise 40", "Returns the greatest loudness behind one of them", () -> {
            StolenVoices x = Check.pressed(1, 100);
            Check.same("in the last", 800, x.loudestIn(4));
            Check.same("in the last", 1000, x.loudestIn(5));
            Check.same("in one before", 1000, x.loudestIn(6));
            Check.same("in one long before", 1000, x.loudestIn(200));
            x.pass(5);
            Check.same("not now, but in the first", 900, x.loudestIn(1));
            Check.same("not now, but in the first", 900, x.loudestIn(200));
            x.setStaying(60, 1000);
            x.letGo(0);
            Check.same("it is silent behind each", 0, x.loudestIn(200));
        });
        Sentence.holds("Promise 40", "if ticks is out of range", () -> {
            for (int bad : new int[] {0, 201, -1, Integer.MIN_VALUE, Integer.MAX_VALUE}) {
                Twins.noArgument(Twins::full, x -> x.loudestIn(bad));
                Twins.noArgument(StolenVoices::new, x -> x.loudestIn(bad));
            }
        });
    }

    // ---- promise 41

    private static void quietIn() {
        Sentence.holds("Promise 41", "Tells after how many ticks all voices would be free", () -> {
            StolenVoices x = Check.pressed(6, 100);
            Check.same("at 0", 1, x.quietIn());
            x.pass(1);
            Check.same("at 200", 4, x.quietIn());
            x.pass(4);
            Check.same("at 1000", 20, x.quietIn());
            x.setStaying(60, 1);
            Check.same("one by one", 1000, x.quietIn());
            x.setStaying(60, 999);
            Check.same("in two", 2, x.quietIn());
            x.setStaying(60, 1000);
            Check.same("in one", 1, x.quietIn());
            for (int loud = 0; loud < 6; loud++) {
                StolenVoices y = new StolenVoices();
                y.setRising(1000, 1);
                for (int v = 0; v < 6; v++) {
                    y.press(v, v == loud ? 11 : 10);
                }
                y.pass(1);
                Check.same("the longest, of voice " + loud, 3, y.quietIn());
            }
            Twins.changesNothing(Twins::full, StolenVoices::quietIn);
        });
        Sentence.holds("Promise 41", "if all keys were let go", () -> {
            StolenVoices x = Check.pressed(60, 100);
            x.setComingBack(true);
            x.pass(1);
            Check.same("none that waits would come back", 4, x.quietIn());
            Check.same("but no key was let go", 60, x.keysDown());
            StolenVoices y = Twins.full();
            Check.same("450, 40 a tick", 12, y.quietIn());
        });
        Sentence.holds("Promise 41", "and the pedal lifted, now", () -> {
            StolenVoices x = Check.pressed(2, 100);
            x.pass(5);
            x.setPedal(true);
            x.letGo(0);
            Check.same("1000, 50 a tick", 20, x.quietIn());
            Check.same("it is still down", true, x.isPedalDown());
            x.letGo(1);
            x.setPedal(false);
            int due = x.quietIn();
            Check.same("the same", 20, due);
            x.pass(due - 1);
            Check.same("not yet", 2, x.sounding());
            x.pass(1);
            Check.same("now", 0, x.sounding());
        });
        Sentence.holds("Promise 41", "0 if they are", () -> {
            StolenVoices x = new StolenVoices();
            Check.same("at first", 0, x.quietIn());
            x.setPedal(true);
            Check.same("the pedal does not matter", 0, x.quietIn());
            x.press(0, 1);
            Check.same("one is not, though at 0", 1, x.quietIn());
            x.letGo(0);
            x.setPedal(false);
            x.pass(1);
            Check.same("they are again", 0, x.quietIn());
        });
    }
}
