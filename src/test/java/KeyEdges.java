/** The promises 14 to 25, sentence by sentence: what keys, the pedal, notes and settings tell. */
final class KeyEdges {
    private static final int[] NO_KEYS = {-1, 60, Integer.MIN_VALUE, Integer.MAX_VALUE};

    private KeyEdges() {
    }

    static void all() {
        isDown();
        voiceOf();
        keysDown();
        keysWaiting();
        nextBack();
        isPedalDown();
        notes();
        stolen();
        refused();
        ticks();
        rule();
    }

    /** Six keys, 50 to 55, have the voices, and 0 to n - 1 have been refused, the last one latest. */
    private static StolenVoices waiting(int n) {
        StolenVoices x = new StolenVoices();
        x.setRule(3);
        for (int k = 50; k < 56; k++) {
            x.press(k, 100);
        }
        for (int k = 0; k < n; k++) {
            x.press(k, 100);
        }
        return x;
    }

    // ---- promise 14

    private static void isDown() {
        Sentence.holds("Promise 14", "Tells whether a key is down", () -> {
            StolenVoices x = new StolenVoices();
            for (int k = 0; k < 60; k++) {
                Check.same("no key is down, " + k, false, x.isDown(k));
            }
            StolenVoices y = Check.pressed(60, 1);
            for (int k = 0; k < 60; k++) {
                Check.same("every key is down, " + k, true, y.isDown(k));
            }
            Twins.changesNothing(Twins::full, z -> z.isDown(7));
        });
        Sentence.holds("Promise 14", "0 to 59", () -> {
            StolenVoices x = new StolenVoices();
            x.press(0, 1);
            Check.same("the least", "true false", x.isDown(0) + " " + x.isDown(59));
            x.letGo(0);
            x.press(59, 1);
            Check.same("the greatest", "false true", x.isDown(0) + " " + x.isDown(59));
        });
        Sentence.holds("Promise 14", "Returns whether it is", () -> {
            StolenVoices x = Twins.full();
            Check.same("with a voice", true, x.isDown(0));
            Check.same("waiting", true, x.isDown(7));
            Check.same("with a kept voice", false, x.isDown(2));
            x.setPedal(false);
            Check.same("with a dying voice", false, x.isDown(2));
            Check.same("without a voice", false, x.isDown(1));
            x.letGo(7);
            Check.same("no longer waiting", false, x.isDown(7));
        });
        Sentence.holds("Promise 14", "if there is no such key", () -> {
            for (int bad : NO_KEYS) {
                Twins.noIndex(Twins::full, x -> x.isDown(bad));
            }
        });
    }

    // ---- promise 15

    private static void voiceOf() {
        Sentence.holds("Promise 15", "Returns the voice of a key", () -> {
            StolenVoices x = Twins.full();
            int[] due = {0, -1, 2, 3, 4, 5, 1, -1};
            for (int k = 0; k < 8; k++) {
                Check.same("key " + k, due[k], x.voiceOf(k));
            }
            Twins.changesNothing(Twins::full, y -> y.voiceOf(6));
        });
        Sentence.holds("Promise 15", "0 to 59", () -> {
            StolenVoices x = new StolenVoices();
            x.press(59, 1);
            x.press(0, 1);
            Check.same("the least", 1, x.voiceOf(0));
            Check.same("the greatest", 0, x.voiceOf(59));
        });
        Sentence.holds("Promise 15", "Returns the voice; NONE if it has none", () -> {
            StolenVoices x = new StolenVoices();
            for (int k = 0; k < 60; k++) {
                Check.same("all voices are free", StolenVoices.NONE, x.voiceOf(k));
            }
            StolenVoices y = Check.pressed(7, 100);
            Check.same("it was stolen", StolenVoices.NONE, y.voiceOf(0));
            y.letGo(6);
            Check.same("dying, it still has it", 0, y.voiceOf(6));
            y.pass(1);
            Check.same("it has become free", StolenVoices.NONE, y.voiceOf(6));
            Check.same("it was refused", StolenVoices.NONE, waiting(1).voiceOf(0));
        });
        Sentence.holds("Promise 15", "if there is no such key", () -> {
            for (int bad : NO_KEYS) {
                Twins.noIndex(Twins::full, x -> x.voiceOf(bad));
                Twins.noIndex(StolenVoices::new, x -> x.voiceOf(bad));
            }
        });
    }

    // ---- promises 16 to 18

    private static void keysDown() {
        Sentence.holds("Promise 16", "Returns the number of keys that are down", () -> {
            StolenVoices x = new StolenVoices();
            Check.same("none", 0, x.keysDown());
            x.press(0, 1);
            Check.same("the first key", 1, x.keysDown());
            x.press(59, 100);
            Check.same("the last one, too", 2, x.keysDown());
            x.setPedal(true);
            x.letGo(0);
            Check.same("not a key whose voice is kept", 1, x.keysDown());
            x.setPedal(false);
            x.letGo(59);
            Check.same("nor one whose voice dies", 0, x.keysDown());
            Check.same("all", 60, Check.pressed(60, 1).keysDown());
            Check.same("those that wait, too", 10, waiting(4).keysDown());
            Twins.changesNothing(Twins::full, StolenVoices::keysDown);
        });
    }

    private static void keysWaiting() {
        Sentence.holds("Promise 17", "Returns the number of keys that are down and have no voice", () -> {
            Check.same("no key is down", 0, new StolenVoices().keysWaiting());
            Check.same("all of six have voices", 0, Check.pressed(6, 1).keysWaiting());
            Check.same("one of seven", 1, Check.pressed(7, 1).keysWaiting());
            Check.same("54 of 60", 54, Check.pressed(60, 1).keysWaiting());
            StolenVoices ends = waiting(1);
            ends.press(59, 1);
            Check.same("the least and the greatest key", 2, ends.keysWaiting());
            StolenVoices x = waiting(2);
            Check.same("refused ones", 2, x.keysWaiting());
            x.letGo(0);
            Check.same("not those that are up", 1, x.keysWaiting());
            x.letGo(50);
            Check.same("nor one that is up, and has a voice", 1, x.keysWaiting());
            x.pass(1);
            Check.same("a free voice does not help before they come back", 1, x.keysWaiting());
            x.setComingBack(true);
            x.pass(1);
            Check.same("it came back", 0, x.keysWaiting());
            Twins.changesNothing(Twins::full, StolenVoices::keysWaiting);
        });
    }

    private static void nextBack() {
        Sentence.holds("Promise 18", "Returns the key that is down and has no voice, and was pressed latest", () -> {
            StolenVoices x = waiting(3);
            Check.same("the last of 0, 1, 2", 2, x.nextBack());
            x.press(59, 1);
            Check.same("the greatest key", 59, x.nextBack());
            x.letGo(0);
            x.press(0, 1);
            Check.same("the least key, pressed again", 0, x.nextBack());
            x.letGo(0);
            Check.same("it is up", 59, x.nextBack());
            x.letGo(59);
            Check.same("it is up, too", 2, x.nextBack());
            x.letGo(50);
            x.press(40, 1);
            Check.same("pressed later, but it has a voice", 2, x.nextBack());
            x.letGo(51);
            x.press(51, 1);
            Check.same("pressed again, but it has a voice", 2, x.nextBack());
            StolenVoices y = Check.pressed(6, 100);
            y.letGo(0);
            y.press(0, 100);
            y.setRule(1);
            for (int k = 30; k < 36; k++) {
                y.press(k, 100);
            }
            Check.same("of the stolen ones, too, that which was pressed latest", 0, y.nextBack());
            Twins.changesNothing(Twins::full, StolenVoices::nextBack);
        });
        Sentence.holds("Promise 18", "NONE if there is none", () -> {
            Check.same("no key is down", StolenVoices.NONE, new StolenVoices().nextBack());
            StolenVoices x = waiting(0);
            Check.same("all keys have voices", StolenVoices.NONE, x.nextBack());
            x.press(0, 1);
            Check.same("there is one", 0, x.nextBack());
            x.letGo(0);
            Check.same("it is up", StolenVoices.NONE, x.nextBack());
            StolenVoices y = waiting(1);
            y.setComingBack(true);
            y.letGo(50);
            y.pass(1);
            Check.same("it came back", StolenVoices.NONE, y.nextBack());
        });
    }

    // ---- promise 19

    private static void isPedalDown() {
        Sentence.holds("Promise 19", "Tells whether the pedal is down", () -> {
            StolenVoices x = new StolenVoices();
            Check.same("at first", false, x.isPedalDown());
            x.setPedal(false);
            Check.same("lifted, though it is up", false, x.isPedalDown());
            x.setPedal(true);
            Check.same("down", true, x.isPedalDown());
            x.setPedal(true);
            Check.same("down, though it is down", true, x.isPedalDown());
            x.pass(99);
            Check.same("it stays down", true, x.isPedalDown());
            x.setPedal(false);
            Check.same("up", false, x.isPedalDown());
            x.undo();
            Check.same("taken back", true, x.isPedalDown());
            Twins.changesNothing(Twins::full, StolenVoices::isPedalDown);
        });
    }

    // ---- promises 20 to 23

    private static void notes() {
        Sentence.holds("Promise 20", "Returns the number of notes that began, told as they began", () -> {
            Check.same("none", 0, new StolenVoices().notesByBeginning());
            Check.same("six", 6, Check.pressed(6, 1).notesByBeginning());
            Check.same("60, of which 54 were stolen", 60, Check.pressed(60, 1).notesByBeginning());
            Check.same("not those that were refused", 6, waiting(9).notesByBeginning());
            StolenVoices x = Twins.full();
            Check.same("full", 8, x.notesByBeginning());
            x.undo();
            x.undo();
            Check.same("one is taken back", 7, x.notesByBeginning());
            Twins.changesNothing(Twins::full, StolenVoices::notesByBeginning);
        });
        Sentence.holds("Promise 21", "Returns the same", () -> {
            StolenVoices x = Twins.full();
            for (int n = 1; n <= 40; n++) {
                Check.same("before tick " + n, x.notesByBeginning(), x.notesByEnds());
                x.pass(1);
                x.setPedal(n % 2 == 0);
                x.press(10 + n % 40, 1 + n);
                x.letGo(10 + n % 40);
            }
            Twins.changesNothing(Twins::full, StolenVoices::notesByEnds);
        });
        Sentence.holds("Promise 21", "told by those that ended, were stolen, and sound", () -> {
            Check.same("none", 0, new StolenVoices().notesByEnds());
            StolenVoices x = Check.pressed(6, 1);
            Check.same("six sound", 6, x.notesByEnds());
            x.press(6, 1);
            Check.same("and one was stolen", 7, x.notesByEnds());
            x.letGo(6);
            x.pass(1);
            Check.same("five sound, one ended, one was stolen", 7, x.notesByEnds());
            x.setRule(3);
            x.press(7, 1);
            x.press(8, 1);
            Check.same("the refused one is none", 8, x.notesByEnds());
            Check.same("refused", 1, x.refused());
        });
    }

    private static void stolen() {
        Sentence.holds("Promise 22", "Returns the number of notes that have been stolen", () -> {
            Check.same("none", 0, new StolenVoices().stolen());
            Check.same("none of six", 0, Check.pressed(6, 1).stolen());
            Check.same("one of seven", 1, Check.pressed(7, 1).stolen());
            Check.same("54 of 60", 54, Check.pressed(60, 1).stolen());
            Check.same("none, if they are refused", 0, waiting(9).stolen());
            StolenVoices x = Check.pressed(7, 1);
            x.undo();
            Check.same("taken back", 0, x.stolen());
            Twins.changesNothing(Twins::full, StolenVoices::stolen);
        });
    }

    private static void refused() {
        Sentence.holds("Promise 23", "Returns the number of notes that have been refused", () -> {
            Check.same("none", 0, new StolenVoices().refused());
            Check.same("none of six", 0, waiting(0).refused());
            Check.same("one of seven", 1, waiting(1).refused());
            Check.same("fifty", 50, waiting(50).refused());
            Check.same("none, if they are stolen", 0, Check.pressed(60, 1).refused());
            StolenVoices x = waiting(2);
            x.letGo(0);
            x.letGo(1);
            Check.same("let go, they have been refused all the same", 2, x.refused());
            x.undo();
            x.undo();
            x.undo();
            Check.same("taken back", 1, x.refused());
            Twins.changesNothing(Twins::full, StolenVoices::refused);
        });
    }

    // ---- promises 24 and 25

    private static void ticks() {
        Sentence.holds("Promise 24", "Returns the ticks so far", () -> {
            StolenVoices x = new StolenVoices();
            Check.same("none", 0, x.ticks());
            x.pass(1);
            Check.same("one", 1, x.ticks());
            x.pass(99);
            Check.same("a hundred", 100, x.ticks());
            x.press(0, 1);
            x.letGo(0);
            x.setPedal(true);
            x.freeByRunning(0);
            x.loudestIn(200);
            x.quietIn();
            x.simulate(3, 60);
            Check.same("no other call counts", 100, x.ticks());
            x.undo();
            x.undo();
            x.undo();
            x.undo();
            Check.same("taken back", 1, x.ticks());
            Check.same("a piece has ticks, too", 21, Check.playing("Vt01t20").ticks());
            Twins.changesNothing(Twins::full, StolenVoices::ticks);
        });
    }

    private static void rule() {
        Sentence.holds("Promise 25", "Returns the rule, 0 to 3", () -> {
            StolenVoices x = new StolenVoices();
            Check.same("at first", 0, x.rule());
            for (int rule = 3; rule >= 0; rule--) {
                x.setRule(rule);
                Check.same("as set", rule, x.rule());
            }
            x.undo();
            Check.same("taken back", 1, x.rule());
            Check.same("refused", "IllegalArgumentException", Check.answer(() -> x.setRule(4)));
            Check.same("as before", 1, x.rule());
            Twins.changesNothing(Twins::full, StolenVoices::rule);
        });
    }
}
