import java.util.function.ToIntBiFunction;

/** The promises 6 to 13, sentence by sentence: what the voices tell. */
final class VoiceEdges {
    private static final int[] NO_VOICES = {-1, 6, Integer.MIN_VALUE, Integer.MAX_VALUE};

    private VoiceEdges() {
    }

    static void all() {
        phaseOf();
        keyOf();
        levelOf();
        isKept();
        sounding();
        oldest();
        loudnessByVoices();
        loudnessByPhases();
    }

    /** What the question answers for each voice. */
    private static String each(StolenVoices x, ToIntBiFunction<StolenVoices, Integer> question) {
        StringBuilder all = new StringBuilder();
        for (int v = 0; v < 6; v++) {
            all.append(v > 0 ? " " : "").append(question.applyAsInt(x, v));
        }
        return all.toString();
    }

    private static void noSuchVoice(ToIntBiFunction<StolenVoices, Integer> question) {
        for (int bad : NO_VOICES) {
            Twins.noIndex(Twins::full, x -> question.applyAsInt(x, bad));
            Twins.noIndex(StolenVoices::new, x -> question.applyAsInt(x, bad));
        }
    }

    // ---- promise 6

    private static void phaseOf() {
        Sentence.holds("Promise 6", "Returns the phase of a voice", () -> {
            Check.same("some", "1 4 3 3 0 0", each(Twins.some(), StolenVoices::phaseOf));
            Check.same("full", "1 1 3 3 1 1", each(Twins.full(), StolenVoices::phaseOf));
            Twins.changesNothing(Twins::full, x -> x.phaseOf(1));
        });
        Sentence.holds("Promise 6", "0 to 5", () -> {
            StolenVoices x = Check.pressed(6, 10);
            x.letGo(0);
            x.setRising(1000, 1000);
            Check.same("the least and the greatest", "4 1 1 1 1 1", each(x, StolenVoices::phaseOf));
            x.pass(1);
            x.letGo(5);
            Check.same("the least and the greatest", "0 2 2 2 2 4", each(x, StolenVoices::phaseOf));
        });
        Sentence.holds("Promise 6", "Returns 0 to 4", () -> {
            StolenVoices x = new StolenVoices();
            Check.same("all are free", "0 0 0 0 0 0", each(x, StolenVoices::phaseOf));
            for (int k = 0; k < 6; k++) {
                x.press(k, 100);
                x.letGo(k);
            }
            Check.same("all die away", "4 4 4 4 4 4", each(x, StolenVoices::phaseOf));
            x.pass(1);
            Check.same("all are free again", "0 0 0 0 0 0", each(x, StolenVoices::phaseOf));
        });
        Sentence.holds("Promise 6", "if there is no such voice", () -> noSuchVoice(StolenVoices::phaseOf));
    }

    // ---- promise 7

    private static void keyOf() {
        Sentence.holds("Promise 7", "Returns the key of a voice", () -> {
            Check.same("full", "0 6 2 3 4 5", each(Twins.full(), StolenVoices::keyOf));
            Twins.changesNothing(Twins::full, x -> x.keyOf(2));
        });
        Sentence.holds("Promise 7", "0 to 5", () -> {
            StolenVoices x = new StolenVoices();
            for (int v = 0; v < 6; v++) {
                x.press(59 - v, 10);
            }
            Check.same("the least and the greatest", "59 58 57 56 55 54", each(x, StolenVoices::keyOf));
        });
        Sentence.holds("Promise 7", "Returns the key; NONE if it is free", () -> {
            Check.same("all are free", "-1 -1 -1 -1 -1 -1", each(new StolenVoices(), StolenVoices::keyOf));
            Check.same("some, a kept and a dying one too", "0 1 2 3 -1 -1", each(Twins.some(), StolenVoices::keyOf));
            StolenVoices x = Check.pressed(1, 1);
            Check.same("the key 0 is none of these", 0, x.keyOf(0));
            x.letGo(0);
            Check.same("up, it is still its key", 0, x.keyOf(0));
            x.pass(1);
            Check.same("it is free", StolenVoices.NONE, x.keyOf(0));
        });
        Sentence.holds("Promise 7", "if there is no such voice", () -> noSuchVoice(StolenVoices::keyOf));
    }

    // ---- promise 8

    private static void levelOf() {
        Sentence.holds("Promise 8", "Returns the level of a voice", () -> {
            Check.same("some", "450 260 140 7 0 0", each(Twins.some(), StolenVoices::levelOf));
            Check.same("full", "450 0 140 7 0 0", each(Twins.full(), StolenVoices::levelOf));
            Twins.changesNothing(Twins::full, x -> x.levelOf(0));
        });
        Sentence.holds("Promise 8", "0 to 5", () -> {
            StolenVoices x = new StolenVoices();
            x.setRising(1000, 1);
            for (int v = 0; v < 6; v++) {
                x.press(v, 10 + v);
            }
            x.pass(1);
            Check.same("the least and the greatest", "100 110 120 130 140 150", each(x, StolenVoices::levelOf));
        });
        Sentence.holds("Promise 8", "Returns 0 to 1000", () -> {
            StolenVoices x = Check.pressed(6, 100);
            Check.same("the least", "0 0 0 0 0 0", each(x, StolenVoices::levelOf));
            x.pass(5);
            Check.same("the greatest", "1000 1000 1000 1000 1000 1000", each(x, StolenVoices::levelOf));
        });
        Sentence.holds("Promise 8", "0 if it is free", () -> {
            StolenVoices x = new StolenVoices();
            Check.same("at first", "0 0 0 0 0 0", each(x, StolenVoices::levelOf));
            x.press(0, 3);
            x.pass(1);
            x.letGo(0);
            x.pass(1);
            Check.same("when it would be lower", 0, x.levelOf(0));
            x.pass(5);
            Check.same("and later", 0, x.levelOf(0));
        });
        Sentence.holds("Promise 8", "if there is no such voice", () -> noSuchVoice(StolenVoices::levelOf));
    }

    // ---- promise 9

    private static int kept(StolenVoices x, int voice) {
        return x.isKept(voice) ? 1 : 0;
    }

    private static void isKept() {
        Sentence.holds("Promise 9", "Tells whether a voice is kept by the pedal", () -> {
            Check.same("some", "0 0 1 0 0 0", each(Twins.some(), VoiceEdges::kept));
            Check.same("full", "0 0 1 0 0 0", each(Twins.full(), VoiceEdges::kept));
            Check.same("all are free", "0 0 0 0 0 0", each(new StolenVoices(), VoiceEdges::kept));
            StolenVoices x = new StolenVoices();
            x.setPedal(true);
            Check.same("all are free, the pedal is down", "0 0 0 0 0 0", each(x, VoiceEdges::kept));
            Twins.changesNothing(Twins::full, y -> y.isKept(2));
        });
        Sentence.holds("Promise 9", "0 to 5", () -> {
            StolenVoices x = Check.pressed(6, 10);
            x.setPedal(true);
            x.letGo(0);
            x.letGo(5);
            Check.same("the least and the greatest", "1 0 0 0 0 1", each(x, VoiceEdges::kept));
        });
        Sentence.holds("Promise 9", "whether its key is up", () -> {
            StolenVoices x = Check.pressed(6, 100);
            x.setPedal(true);
            Check.same("down", "0 0 0 0 0 0", each(x, VoiceEdges::kept));
            for (int k = 0; k < 6; k++) {
                x.letGo(k);
            }
            Check.same("up", "1 1 1 1 1 1", each(x, VoiceEdges::kept));
            x.press(3, 1);
            Check.same("down again", "1 1 1 0 1 1", each(x, VoiceEdges::kept));
        });
        Sentence.holds("Promise 9", "and it does not die away", () -> {
            StolenVoices x = Check.pressed(3, 100);
            x.letGo(0);
            x.setPedal(true);
            x.letGo(1);
            Check.same("0 dies, though the pedal is down", "0 1 0 0 0 0", each(x, VoiceEdges::kept));
            x.setPedal(false);
            Check.same("1 dies", "0 0 0 0 0 0", each(x, VoiceEdges::kept));
            x.setPedal(true);
            Check.same("the pedal takes none back", "0 0 0 0 0 0", each(x, VoiceEdges::kept));
        });
        Sentence.holds("Promise 9", "if there is no such voice", () -> noSuchVoice(VoiceEdges::kept));
    }

    // ---- promise 10

    private static void sounding() {
        Sentence.holds("Promise 10", "Returns the number of voices that are not free", () -> {
            StolenVoices x = new StolenVoices();
            Check.same("all are free", 0, x.sounding());
            x.press(0, 1);
            Check.same("at the level 0", 1, x.sounding());
            Check.same("some", 4, Twins.some().sounding());
            Check.same("none is free", 6, Twins.full().sounding());
            Check.same("all keys are down", 6, Check.pressed(60, 1).sounding());
            StolenVoices y = Check.pressed(6, 1);
            for (int k = 0; k < 6; k++) {
                y.letGo(k);
                Check.same("one that dies is not free", 6, y.sounding());
            }
            y.pass(1);
            Check.same("all are free again", 0, y.sounding());
            Twins.changesNothing(Twins::full, StolenVoices::sounding);
        });
    }

    // ---- promise 11

    private static void oldest() {
        Sentence.holds("Promise 11", "Returns the oldest voice", () -> {
            for (int old = 0; old < 6; old++) {
                StolenVoices x = Check.pressed(6, 100);
                for (int v = 0; v < 6; v++) {
                    if (v != old) {
                        x.letGo(v);
                        x.press(v, 100);
                    }
                }
                Check.same("all others began anew", old, x.oldest());
                x.letGo(old);
                Check.same("it dies", old, x.oldest());
                x.setPedal(true);
                x.press(old, 100);
                x.letGo(old);
                Check.same("it began anew", old == 0 ? 1 : 0, x.oldest());
            }
            Check.same("some", 0, Twins.some().oldest());
            Twins.changesNothing(Twins::full, StolenVoices::oldest);
        });
        Sentence.holds("Promise 11", "NONE if all are free", () -> {
            StolenVoices x = new StolenVoices();
            Check.same("at first", StolenVoices.NONE, x.oldest());
            x.press(0, 1);
            Check.same("one is not", 0, x.oldest());
            x.letGo(0);
            Check.same("one is not yet", 0, x.oldest());
            x.pass(1);
            Check.same("all are", StolenVoices.NONE, x.oldest());
        });
    }

    // ---- promises 12 and 13

    private static void loud(String what, int want, StolenVoices x) {
        Check.same(what + ", by voices", want, x.loudnessByVoices());
        Check.same(what + ", by phases", want, x.loudnessByPhases());
    }

    private static void loudnessByVoices() {
        Sentence.holds("Promise 12", "the levels of all voices, together", () -> {
            loud("all are free", 0, new StolenVoices());
            loud("all at 0", 0, Check.pressed(6, 100));
            StolenVoices x = Check.pressed(6, 100);
            x.pass(5);
            loud("all at 1000", 6000, x);
            x.setStaying(60, 1000);
            x.letGo(5);
            x.pass(1);
            loud("five at 900", 4500, x);
            loud("some", 857, Twins.some());
            loud("full", 597, Twins.full());
            Twins.changesNothing(Twins::full, StolenVoices::loudnessByVoices);
        });
    }

    private static void loudnessByPhases() {
        Sentence.holds("Promise 13", "told by the phases, one after the other", () -> {
            StolenVoices x = new StolenVoices();
            x.press(0, 100);
            x.pass(1);
            loud("all of it rises", 200, x);
            x.pass(4);
            loud("all of it falls", 1000, x);
            x.pass(4);
            loud("all of it stays", 600, x);
            x.letGo(0);
            loud("all of it dies away", 600, x);
            x.pass(11);
            loud("the last of it", 50, x);
            x.pass(1);
            loud("nothing", 0, x);
            Twins.changesNothing(Twins::full, StolenVoices::loudnessByPhases);
        });
        Sentence.holds("Promise 13", "Tells the same", () -> {
            for (int n = 1; n <= 30; n++) {
                StolenVoices x = Twins.full();
                x.pass(n);
                x.setPedal(n % 2 == 0);
                x.letGo(n % 3 + 3);
                x.pass(1);
                Check.same("in tick " + n, x.loudnessByVoices(), x.loudnessByPhases());
            }
        });
    }
}
