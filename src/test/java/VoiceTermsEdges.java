import java.util.HashSet;
import java.util.Set;

/** "What it is" and the term "VOICES, KEYS", sentence by sentence. */
final class VoiceTermsEdges {
    private static final String PART = "VOICES, KEYS";

    private VoiceTermsEdges() {
    }

    static void all() {
        Sentence.holds("What it is", "at most 512 calls", VoiceTermsEdges::lastCall);
        Sentence.holds(PART, "There are 6 voices, numbered from 0", VoiceTermsEdges::sixVoices);
        Sentence.holds(PART, "and 60 keys, numbered from 0", VoiceTermsEdges::sixtyKeys);
        Sentence.holds(PART, "A voice is in a phase: 0: free (at first)", VoiceTermsEdges::freeAtFirst);
        Sentence.holds(PART, "1: rising, 2: falling, 3: staying, 4: dying away", VoiceTermsEdges::phases);
        Sentence.holds(PART, "but for a free one it has a key", VoiceTermsEdges::hasKey);
        Sentence.holds(PART, "(no two voices the same one)", VoiceTermsEdges::noKeyTwice);
        Sentence.holds(PART, "a strength of 1 to 100", VoiceTermsEdges::strength);
        Sentence.holds(PART, "a level of 0 to 1000", VoiceTermsEdges::levelRange);
        Sentence.holds(PART, "The peak of a voice is 10 times its strength", VoiceTermsEdges::peak);
        Sentence.holds(PART, "its rest is the peak, times the share", VoiceTermsEdges::rest);
        Sentence.holds(PART, "(0 to 100; at first 60)", VoiceTermsEdges::shareRange);
        Sentence.holds(PART, "divided by 100, rounded down", VoiceTermsEdges::restRoundedDown);
        Sentence.holds(PART, "Time passes in ticks", VoiceTermsEdges::onlyTicks);
        Sentence.holds(PART, "In a tick each voice", VoiceTermsEdges::eachVoice);
        Sentence.holds(PART, "1: its level becomes higher by the rise (1 to 1000; at first 200)",
            VoiceTermsEdges::rise);
        Sentence.holds(PART, "at most the peak; if it is at the peak", VoiceTermsEdges::atPeak);
        Sentence.holds(PART, "(or was above it), it is the peak, and the phase becomes 2",
            VoiceTermsEdges::abovePeak);
        Sentence.holds(PART, "2: it becomes lower by the fall (1 to 1000; at first 100)", VoiceTermsEdges::fall);
        Sentence.holds(PART, "at least the rest; if it is at the rest", VoiceTermsEdges::atRest);
        Sentence.holds(PART, "(or was below it), it is the rest, and the phase becomes 3", VoiceTermsEdges::belowRest);
        Sentence.holds(PART, "3: it stays as it is", VoiceTermsEdges::stays);
        Sentence.holds(PART, "4: it becomes lower by the dying (1 to 1000; at first 50)", VoiceTermsEdges::dying);
        Sentence.holds(PART, "if it would be 0 or lower, the voice becomes free", VoiceTermsEdges::dead);
        Sentence.holds(PART, "and its note has ended", VoiceTermsEdges::noteEnds);
        Sentence.holds(PART, "A voice is older than another one if it began earlier", VoiceTermsEdges::older);
        Sentence.holds(PART, "older than another one if it began earlier", VoiceTermsEdges::olderThanBack);
        Sentence.holds(PART, "(also anew)", VoiceTermsEdges::olderAnew);
    }

    private static void lastCall() {
        StolenVoices x = new StolenVoices();
        for (int n = 0; n < 511; n++) {
            x.pass(99);
        }
        Check.same("the 512th call, ticks", 511 * 99, x.ticks());
        StolenVoices y = new StolenVoices();
        y.press(0, 100);
        for (int n = 0; n < 255; n++) {
            y.letGo(0);
            y.press(0, 100);
        }
        Check.same("the 512th call, notesByBeginning", 1, y.notesByBeginning());
    }

    private static void sixVoices() {
        StolenVoices x = new StolenVoices();
        for (int n = 0; n < 6; n++) {
            Check.same("the voice of press " + n, n, x.press(10 + n, 50));
        }
        Check.same("sounding", 6, x.sounding());
        Check.same("none stolen", 0, x.stolen());
        x.press(20, 50);
        Check.same("a seventh key makes no seventh voice", 6, x.sounding());
        Check.same("one is stolen", 1, x.stolen());
    }

    private static void sixtyKeys() {
        StolenVoices x = new StolenVoices();
        for (int k = 0; k < 60; k++) {
            x.press(k, 1);
            Check.same("keys down", k + 1, x.keysDown());
        }
        Check.same("there is no more", "IndexOutOfBoundsException", Check.answer(() -> x.press(60, 1)));
    }

    private static void freeAtFirst() {
        Check.same("phases", "[0, 0, 0, 0, 0, 0]", Check.phases(new StolenVoices()));
    }

    private static void phases() {
        StolenVoices x = at(200);
        Check.same("rising", 1, x.phaseOf(0));
        x = at(1000);
        Check.same("falling", 2, x.phaseOf(0));
        x.pass(4);
        Check.same("staying", 3, x.phaseOf(0));
        x.letGo(0);
        Check.same("dying away", 4, x.phaseOf(0));
        x.pass(12);
        Check.same("free", 0, x.phaseOf(0));
    }

    private static void hasKey() {
        StolenVoices x = new StolenVoices();
        Check.same("free", -1, x.keyOf(0));
        x.press(0, 100);
        Check.same("rising", 0, x.keyOf(0));
        x.pass(5);
        Check.same("falling", 0, x.keyOf(0));
        x.pass(9);
        Check.same("staying", 0, x.keyOf(0));
        x.letGo(0);
        x.pass(11);
        Check.same("dying away", 0, x.keyOf(0));
        x.pass(1);
        Check.same("free", -1, x.keyOf(0));
    }

    private static void noKeyTwice() {
        StolenVoices x = new StolenVoices();
        x.setComingBack(true);
        for (int n = 0; n < 40; n++) {
            int key = n * 7 % 10;
            if (x.isDown(key)) {
                x.letGo(key);
            } else {
                x.press(key, 1 + n);
            }
            x.pass(1 + n % 3);
            Set<Integer> keys = new HashSet<>();
            for (int v = 0; v < 6; v++) {
                int its = x.keyOf(v);
                Check.same("key " + its + " is new", true, its < 0 || keys.add(its));
            }
        }
    }

    private static void strength() {
        Check.same("the least", 10, leap(1).levelOf(0));
        Check.same("the greatest", 1000, leap(100).levelOf(0));
        StolenVoices x = new StolenVoices();
        Check.same("below", "IllegalArgumentException", Check.answer(() -> x.press(0, 0)));
        Check.same("above", "IllegalArgumentException", Check.answer(() -> x.press(0, 101)));
    }

    private static void levelRange() {
        StolenVoices x = new StolenVoices();
        x.press(0, 100);
        Check.same("the least", 0, x.levelOf(0));
        x.setRising(999, 1000);
        x.pass(1);
        Check.same("one below the greatest", 999, x.levelOf(0));
        x.pass(1);
        Check.same("not above the greatest", 1000, x.levelOf(0));
        x.setStaying(0, 1000);
        x.pass(1);
        Check.same("the least", 0, x.levelOf(0));
        x.letGo(0);
        x.pass(1);
        Check.same("not below the least", 0, x.levelOf(0));
    }

    private static void peak() {
        for (int strength : new int[] {1, 2, 37, 99, 100}) {
            StolenVoices x = leap(strength);
            Check.same("strength " + strength, 10 * strength, x.levelOf(0));
            Check.same("it is there", 2, x.phaseOf(0));
        }
    }

    private static int restOf(int strength, int share) {
        StolenVoices x = leap(strength);
        x.setStaying(share, 50);
        x.pass(1);
        Check.same("it stays", 3, x.phaseOf(0));
        return x.levelOf(0);
    }

    private static void rest() {
        Check.same("1000 * 60", 600, restOf(100, 60));
        Check.same("1000 * 37", 370, restOf(100, 37));
        Check.same("10 * 50", 5, restOf(1, 50));
        Check.same("370 * 10", 37, restOf(37, 10));
    }

    private static void shareRange() {
        StolenVoices x = leap(100);
        x.pass(1);
        Check.same("at first 60", 600, x.levelOf(0));
        Check.same("at first 60", 60, x.setStaying(0, 50));
        Check.same("the least", 0, restOf(100, 0));
        Check.same("the greatest", 1000, restOf(100, 100));
        Check.same("one above the least", 10, restOf(100, 1));
        Check.same("one below the greatest", 990, restOf(100, 99));
        Check.same("the least", 0, restOf(1, 0));
        Check.same("the greatest", 10, restOf(1, 100));
    }

    private static void restRoundedDown() {
        Check.same("0.1", 0, restOf(1, 1));
        Check.same("0.9", 0, restOf(1, 9));
        Check.same("1", 1, restOf(1, 10));
        Check.same("9.9", 9, restOf(1, 99));
        Check.same("23.1", 23, restOf(7, 33));
        Check.same("49.5", 49, restOf(9, 55));
        Check.same("980.1", 980, restOf(99, 99));
    }

    private static void onlyTicks() {
        StolenVoices x = at(400);
        x.letGo(0);
        x.setPedal(true);
        x.setPedal(false);
        x.setRising(1000, 1000);
        x.setStaying(0, 1000);
        x.setComingBack(true);
        x.press(1, 50);
        x.loudestIn(200);
        Check.same("no level moves without a tick", "[400, 0, 0, 0, 0, 0]", Check.levels(x));
        Check.same("nor does a phase", "[4, 1, 0, 0, 0, 0]", Check.phases(x));
        x.pass(1);
        Check.same("a tick moves them", "[0, 500, 0, 0, 0, 0]", Check.levels(x));
        Check.same("a tick moves them", "[0, 2, 0, 0, 0, 0]", Check.phases(x));
    }

    private static void eachVoice() {
        StolenVoices x = new StolenVoices();
        for (int k = 0; k < 6; k++) {
            x.press(k, 100);
            x.pass(1);
        }
        Check.same("levels", "[900, 1000, 800, 600, 400, 200]", Check.levels(x));
        x.letGo(5);
        x.pass(1);
        Check.same("levels", "[800, 900, 1000, 800, 600, 150]", Check.levels(x));
    }

    private static void rise() {
        StolenVoices x = new StolenVoices();
        x.press(0, 100);
        x.pass(1);
        Check.same("at first 200", 200, x.levelOf(0));
        x.setRising(1, 100);
        x.pass(1);
        Check.same("the least", 201, x.levelOf(0));
        x.pass(99);
        Check.same("the least, in each tick", 300, x.levelOf(0));
        x.setRising(1000, 100);
        x.pass(1);
        Check.same("the greatest", 1000, x.levelOf(0));
        Check.same("the greatest, from 0", 1000, leap(100).levelOf(0));
    }

    /** One tick of a voice of the strength 21, whose peak is 210, from the level 0. */
    private static void fromBelow(int rise, int level, int phase) {
        StolenVoices x = new StolenVoices();
        x.setRising(rise, 100);
        x.press(0, 21);
        x.pass(1);
        Check.same("level after a rise by " + rise, level, x.levelOf(0));
        Check.same("phase after a rise by " + rise, phase, x.phaseOf(0));
    }

    private static void atPeak() {
        fromBelow(209, 209, 1);
        fromBelow(210, 210, 2);
        fromBelow(211, 210, 2);
        fromBelow(1000, 210, 2);
        StolenVoices x = new StolenVoices();
        x.setRising(209, 100);
        x.press(0, 21);
        x.pass(1);
        x.setRising(1, 100);
        x.pass(1);
        Check.same("one below, then at the peak", 210, x.levelOf(0));
        Check.same("its phase", 2, x.phaseOf(0));
    }

    /** One tick behind a beginning anew with the strength at the level. */
    private static void anew(int level, int strength, int rise, int levelThen, int phaseThen) {
        StolenVoices x = at(level);
        x.setRising(rise, 100);
        x.letGo(0);
        x.press(0, strength);
        Check.same("the level stays", level, x.levelOf(0));
        Check.same("it rises", 1, x.phaseOf(0));
        x.pass(1);
        String what = "from " + level + ", strength " + strength + ", rise " + rise;
        Check.same("level " + what, levelThen, x.levelOf(0));
        Check.same("phase " + what, phaseThen, x.phaseOf(0));
    }

    private static void abovePeak() {
        anew(1000, 100, 1, 1000, 2);
        anew(1000, 100, 1000, 1000, 2);
        anew(1000, 99, 1, 990, 2);
        anew(1000, 1, 1, 10, 2);
        anew(1000, 1, 1000, 10, 2);
        anew(200, 20, 1, 200, 2);
        anew(200, 21, 9, 209, 1);
        anew(200, 21, 10, 210, 2);
        anew(200, 21, 11, 210, 2);
        anew(200, 19, 1, 190, 2);
    }

    private static void fall() {
        StolenVoices x = at(1000);
        x.pass(1);
        Check.same("at first 100", 900, x.levelOf(0));
        x.setRising(200, 1);
        x.pass(1);
        Check.same("the least", 899, x.levelOf(0));
        x.pass(99);
        Check.same("the least, in each tick", 800, x.levelOf(0));
        StolenVoices y = at(1000);
        y.setStaying(0, 50);
        y.setRising(200, 1000);
        y.pass(1);
        Check.same("the greatest", 0, y.levelOf(0));
    }

    /** One tick of a voice that falls from 1000 to a rest of 600. */
    private static void fromAbove(int fall, int level, int phase) {
        StolenVoices x = at(1000);
        x.setRising(200, fall);
        x.pass(1);
        Check.same("level after a fall by " + fall, level, x.levelOf(0));
        Check.same("phase after a fall by " + fall, phase, x.phaseOf(0));
    }

    private static void atRest() {
        fromAbove(1, 999, 2);
        fromAbove(399, 601, 2);
        fromAbove(400, 600, 3);
        fromAbove(401, 600, 3);
        fromAbove(1000, 600, 3);
        StolenVoices x = at(1000);
        x.setRising(200, 399);
        x.pass(1);
        x.setRising(200, 1);
        x.pass(1);
        Check.same("one above, then at the rest", 600, x.levelOf(0));
        Check.same("its phase", 3, x.phaseOf(0));
    }

    /** One tick of a voice that falls, at the level 900, when the rest has become another one. */
    private static void newRest(int share, int fall, int level, int phase) {
        StolenVoices x = at(1000);
        x.setStaying(0, 50);
        x.pass(1);
        Check.same("it falls", 900, x.levelOf(0));
        x.setStaying(share, 50);
        x.setRising(200, fall);
        x.pass(1);
        Check.same("level with the share " + share, level, x.levelOf(0));
        Check.same("phase with the share " + share, phase, x.phaseOf(0));
    }

    private static void belowRest() {
        newRest(90, 1, 900, 3);
        newRest(90, 1000, 900, 3);
        newRest(91, 1, 910, 3);
        newRest(100, 1, 1000, 3);
        newRest(100, 1000, 1000, 3);
        newRest(89, 9, 891, 2);
        newRest(89, 10, 890, 3);
        newRest(89, 11, 890, 3);
    }

    private static void stays() {
        StolenVoices x = at(1000);
        x.pass(4);
        Check.same("at the rest", 600, x.levelOf(0));
        x.pass(99);
        Check.same("level", 600, x.levelOf(0));
        Check.same("phase", 3, x.phaseOf(0));
        x.setStaying(100, 50);
        x.pass(1);
        Check.same("a higher rest changes nothing", 600, x.levelOf(0));
        x.setStaying(0, 50);
        x.pass(1);
        Check.same("nor does a lower one", 600, x.levelOf(0));
        StolenVoices y = leap(100);
        y.setStaying(0, 50);
        Check.same("no note ends", 0, y.pass(99));
        Check.same("it stays at 0, too", 3, y.phaseOf(0));
        Check.same("with its key", 0, y.keyOf(0));
    }

    private static void dying() {
        StolenVoices x = at(1000);
        x.letGo(0);
        x.pass(1);
        Check.same("at first 50", 950, x.levelOf(0));
        x.setStaying(60, 1);
        x.pass(1);
        Check.same("the least", 949, x.levelOf(0));
        x.pass(99);
        Check.same("the least, in each tick", 850, x.levelOf(0));
        x.setStaying(60, 849);
        x.pass(1);
        Check.same("below any rest", 1, x.levelOf(0));
        StolenVoices y = at(1000);
        y.setStaying(60, 1000);
        y.letGo(0);
        y.pass(1);
        Check.same("the greatest", 0, y.phaseOf(0));
    }

    /** One tick of a voice that dies away from a level. */
    private static void dies(int level, int dying, int levelThen, int phaseThen) {
        StolenVoices x = at(level);
        x.setStaying(60, dying);
        x.letGo(0);
        x.pass(1);
        String what = "from " + level + " by " + dying;
        Check.same("level " + what, levelThen, x.levelOf(0));
        Check.same("phase " + what, phaseThen, x.phaseOf(0));
        Check.same("key " + what, phaseThen == 0 ? -1 : 0, x.keyOf(0));
    }

    private static void dead() {
        dies(1000, 999, 1, 4);
        dies(1000, 1000, 0, 0);
        dies(200, 199, 1, 4);
        dies(200, 200, 0, 0);
        dies(200, 201, 0, 0);
        dies(200, 1000, 0, 0);
        dies(0, 1, 0, 0);
        dies(0, 1000, 0, 0);
    }

    private static void noteEnds() {
        StolenVoices x = at(200);
        x.letGo(0);
        Check.same("200, 50 a tick", 0, x.pass(3));
        Check.same("50 left", 50, x.levelOf(0));
        Check.same("it ends", 1, x.pass(1));
        Check.same("it began", 1, x.notesByBeginning());
        Check.same("it ended", 1, x.notesByEnds());
        Check.same("none sounds", 0, x.sounding());
        Check.same("none has been stolen", 0, x.stolen());
        Check.same("once only", 0, x.pass(99));
    }

    private static void older() {
        StolenVoices x = new StolenVoices();
        x.press(30, 100);
        x.press(20, 1);
        x.pass(9);
        x.press(10, 50);
        Check.same("the first", 0, x.oldest());
        x.setStaying(60, 1000);
        x.letGo(30);
        x.pass(1);
        x.press(40, 1);
        Check.same("0 began latest", 0, x.voiceOf(40));
        Check.same("then the second", 1, x.oldest());
        x.letGo(20);
        x.pass(1);
        Check.same("then the third", 2, x.oldest());
        x.letGo(10);
        x.pass(1);
        Check.same("then the one that began latest", 0, x.oldest());
    }

    private static void olderThanBack() {
        StolenVoices x = Check.pressed(7, 100);
        x.setComingBack(true);
        x.setStaying(60, 1000);
        for (int k = 1; k < 6; k++) {
            x.letGo(k);
        }
        x.pass(1);
        Check.same("the key 0 came back to 1", 1, x.voiceOf(0));
        Check.same("the key 6 was pressed before", 0, x.oldest());
        StolenVoices y = Check.pressed(7, 100);
        y.setComingBack(true);
        y.setStaying(60, 1000);
        y.letGo(6);
        y.letGo(5);
        y.press(5, 100);
        y.pass(1);
        Check.same("the key 0 came back to 0", 0, y.voiceOf(0));
        for (int k = 1; k < 5; k++) {
            y.letGo(k);
        }
        y.pass(1);
        Check.same("the key 5 was pressed before, and its voice began anew", 5, y.oldest());
    }

    private static void olderAnew() {
        StolenVoices x = Check.pressed(2, 100);
        x.pass(5);
        x.letGo(0);
        Check.same("letting go is no beginning", 0, x.oldest());
        x.press(0, 100);
        Check.same("dying away, it began anew", 1, x.oldest());
        x.setPedal(true);
        x.letGo(1);
        Check.same("nor is being kept", 1, x.oldest());
        x.press(1, 100);
        Check.same("kept, it began anew", 0, x.oldest());
    }

    /** Voice 0 has the key 0, and is at the level: 0, or one of 200 to 1000 on its way up. */
    private static StolenVoices at(int level) {
        StolenVoices x = new StolenVoices();
        x.press(0, 100);
        if (level > 0) {
            x.pass(level / 200);
        }
        Check.same("it is there", level, x.levelOf(0));
        return x;
    }

    /** Voice 0 is at its peak, and falls to its rest in the next tick. */
    private static StolenVoices leap(int strength) {
        StolenVoices x = new StolenVoices();
        x.setRising(1000, 1000);
        x.press(0, strength);
        x.pass(1);
        return x;
    }
}
