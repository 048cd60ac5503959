/** The promises 26 to 33, sentence by sentence: the actions. */
final class ActionEdges {
    private static final int[] NO_KEYS = {-1, 60, Integer.MIN_VALUE, Integer.MAX_VALUE};
    private static final int[] NO_SLOPES = {0, 1001, -1, Integer.MIN_VALUE, Integer.MAX_VALUE};
    private static final String NO_KEY = "if there is no such key";

    private ActionEdges() {
    }

    static void all() {
        press();
        pressRefuses();
        letGo();
        setPedal();
        setRising();
        setStaying();
        setRule();
        setComingBack();
        pass();
    }

    // ---- promise 26

    private static void press() {
        Sentence.holds("Promise 26", "Presses a key", () -> {
            StolenVoices x = new StolenVoices();
            x.press(12, 34);
            Check.same("down", true, x.isDown(12));
            Check.same("it has a voice", 0, x.voiceOf(12));
            Check.same("no other one is down", 1, x.keysDown());
        });
        Sentence.holds("Promise 26", "0 to 59", () -> {
            StolenVoices x = new StolenVoices();
            Check.same("the least", 0, x.press(0, 50));
            Check.same("the greatest", 1, x.press(59, 50));
            Check.same("they have voices", "0 1", x.voiceOf(0) + " " + x.voiceOf(59));
        });
        Sentence.holds("Promise 26", "1 to 100", () -> {
            StolenVoices x = new StolenVoices();
            x.setRising(1000, 1);
            Check.same("the least", 0, x.press(0, 1));
            Check.same("the greatest", 1, x.press(1, 100));
            x.pass(1);
            Check.same("their peaks", "[10, 1000, 0, 0, 0, 0]", Check.levels(x));
            x.letGo(0);
            x.letGo(1);
            Check.same("the greatest, anew", 0, x.press(0, 100));
            Check.same("the least, anew", 1, x.press(1, 1));
        });
        Sentence.holds("Promise 26", "Returns the voice that it gets", () -> {
            StolenVoices x = Check.pressed(6, 100);
            x.letGo(4);
            Check.same("its own", 4, x.press(4, 1));
            Check.same("a stolen one", 0, x.press(6, 1));
            x.letGo(3);
            x.pass(1);
            Check.same("a free one", 3, x.press(7, 1));
        });
        Sentence.holds("Promise 26", "NONE if it gets none", () -> {
            StolenVoices x = Check.pressed(6, 100);
            x.setRule(3);
            Check.same("refused", StolenVoices.NONE, x.press(6, 1));
            x.setRule(2);
            Check.same("by another rule it gets one", 0, x.press(7, 1));
        });
    }

    private static void pressRefuses() {
        Sentence.holds("Promise 26", NO_KEY, () -> {
            for (int bad : NO_KEYS) {
                Twins.noIndex(Twins::full, x -> x.press(bad, 50));
                Twins.noIndex(Twins::full, x -> x.press(bad, 0));
                Twins.noIndex(Twins::full, x -> x.press(bad, 101));
            }
        });
        Sentence.holds("Promise 26", "if strength is out of range", () -> {
            for (int bad : new int[] {0, 101, -1, Integer.MIN_VALUE, Integer.MAX_VALUE}) {
                Twins.noArgument(Twins::full, x -> x.press(20, bad));
                Twins.noArgument(Twins::some, x -> x.press(2, bad));
            }
        });
        Sentence.holds("Promise 26", "if it is down", () -> {
            Twins.noState(Twins::full, x -> x.press(0, 50));
            Twins.noState(Twins::full, x -> x.press(7, 50));
            Twins.noState(Twins::some, x -> x.press(0, 1));
            Twins.noState(Twins::some, x -> x.press(3, 100));
            StolenVoices x = Twins.some();
            Check.same("a kept one is up", 2, x.press(2, 1));
            Check.same("a dying one is up", 1, x.press(1, 1));
            Check.same("now they are down", "IllegalStateException", Check.answer(() -> x.press(1, 1)));
        });
    }

    // ---- promise 27

    private static void letGo() {
        Sentence.holds("Promise 27", "Lets a key go", () -> {
            StolenVoices x = Check.pressed(2, 50);
            x.letGo(1);
            Check.same("up", false, x.isDown(1));
            Check.same("the other one is down", true, x.isDown(0));
            Check.same("it dies", "[1, 4, 0, 0, 0, 0]", Check.phases(x));
        });
        Sentence.holds("Promise 27", "0 to 59", () -> {
            StolenVoices x = Check.pressed(1, 50);
            x.press(59, 50);
            Check.same("the greatest", 1, x.letGo(59));
            Check.same("the least", 0, x.letGo(0));
            Check.same("none is down", 0, x.keysDown());
        });
        Sentence.holds("Promise 27", "Returns its voice", () -> {
            StolenVoices x = Check.pressed(6, 50);
            Check.same("it dies", 5, x.letGo(5));
            x.setPedal(true);
            Check.same("it is kept", 4, x.letGo(4));
            Check.same("the least", 0, x.letGo(0));
        });
        Sentence.holds("Promise 27", "NONE if it has none", () -> {
            StolenVoices x = Twins.full();
            Check.same("it was refused", StolenVoices.NONE, x.letGo(7));
            StolenVoices y = Check.pressed(7, 50);
            Check.same("it was stolen", StolenVoices.NONE, y.letGo(0));
            Check.same("no voice dies", "[1, 1, 1, 1, 1, 1]", Check.phases(y));
        });
        Sentence.holds("Promise 27", NO_KEY, () -> {
            for (int bad : NO_KEYS) {
                Twins.noIndex(Twins::full, x -> x.letGo(bad));
                Twins.noIndex(StolenVoices::new, x -> x.letGo(bad));
            }
        });
        Sentence.holds("Promise 27", "if it is up", () -> {
            Twins.noState(StolenVoices::new, x -> x.letGo(0));
            Twins.noState(StolenVoices::new, x -> x.letGo(59));
            Twins.noState(Twins::full, x -> x.letGo(50));
            Twins.noState(Twins::full, x -> x.letGo(2));
            Twins.noState(Twins::some, x -> x.letGo(1));
            StolenVoices x = Twins.full();
            x.letGo(7);
            Check.same("it was let go", "IllegalStateException", Check.answer(() -> x.letGo(7)));
        });
    }

    // ---- promise 28

    private static void setPedal() {
        Sentence.holds("Promise 28", "Presses the pedal down, or lifts it", () -> {
            StolenVoices x = Check.pressed(1, 100);
            x.setPedal(true);
            x.letGo(0);
            x.pass(9);
            Check.same("kept", 600, x.levelOf(0));
            x.setPedal(false);
            x.pass(1);
            Check.same("dies", 550, x.levelOf(0));
        });
        Sentence.holds("Promise 28", "whether it is down then", () -> {
            StolenVoices x = new StolenVoices();
            x.setPedal(true);
            Check.same("down", true, x.isPedalDown());
            x.setPedal(true);
            Check.same("down, again", true, x.isPedalDown());
            x.setPedal(false);
            Check.same("up", false, x.isPedalDown());
            x.setPedal(false);
            Check.same("up, again", false, x.isPedalDown());
        });
        Sentence.holds("Promise 28", "Returns how many voices die away from now on by that", () -> {
            StolenVoices x = new StolenVoices();
            Check.same("all are free, down", 0, x.setPedal(true));
            Check.same("all are free, up", 0, x.setPedal(false));
            for (int k = 0; k < 6; k++) {
                x.press(k, 100);
            }
            x.letGo(0);
            Check.same("one dies already, down", 0, x.setPedal(true));
            Check.same("one dies already, up", 0, x.setPedal(false));
            x.setPedal(true);
            for (int k = 1; k < 6; k++) {
                x.letGo(k);
            }
            Check.same("down, though it is down", 0, x.setPedal(true));
            Check.same("five are kept", 5, x.setPedal(false));
            Check.same("they die already", 0, x.setPedal(false));
            x.press(2, 1);
            Check.same("a key that is down", 0, x.setPedal(false));
            Check.same("all six", 6, sixKept().setPedal(false));
        });
    }

    private static StolenVoices sixKept() {
        StolenVoices x = Check.pressed(6, 100);
        x.setPedal(true);
        for (int k = 0; k < 6; k++) {
            x.letGo(k);
        }
        return x;
    }

    // ---- promises 29 and 30

    private static void setRising() {
        Sentence.holds("Promise 29", "Changes how levels rise and fall", () -> {
            StolenVoices x = new StolenVoices();
            x.setRising(400, 30);
            x.press(0, 100);
            x.pass(1);
            Check.same("it rises", 400, x.levelOf(0));
            x.pass(2);
            Check.same("to the peak", 1000, x.levelOf(0));
            x.pass(1);
            Check.same("it falls", 970, x.levelOf(0));
            x.letGo(0);
            x.pass(1);
            Check.same("it dies as before", 920, x.levelOf(0));
        });
        slope("`rise`: 1 to 1000", 1, 1, 1);
        slope("`rise`: 1 to 1000", 1000, 1, 1000);
        slope("`fall`: 1 to 1000", 1000, 1, 1000);
        Sentence.holds("Promise 29", "`fall`: 1 to 1000", () -> {
            for (int fall : new int[] {1, 2, 999, 1000}) {
                StolenVoices x = new StolenVoices();
                x.setStaying(0, 50);
                x.setRising(1000, fall);
                x.press(0, 100);
                x.pass(2);
                Check.same("fall " + fall, 1000 - fall, x.levelOf(0));
            }
        });
        Sentence.holds("Promise 29", "Returns the previous rise", () -> {
            StolenVoices x = new StolenVoices();
            Check.same("at first", 200, x.setRising(1, 1000));
            Check.same("the least", 1, x.setRising(1000, 1));
            Check.same("the greatest", 1000, x.setRising(1000, 5));
            x.undo();
            x.undo();
            Check.same("taken back", 1, x.setRising(7, 7));
            Check.same("not that which was refused", "IllegalArgumentException",
                Check.answer(() -> x.setRising(8, 0)));
            Check.same("but the one before", 7, x.setRising(9, 9));
        });
        Sentence.holds("Promise 29", "if rise or fall is out of range", () -> {
            for (int bad : NO_SLOPES) {
                Twins.noArgument(Twins::full, x -> x.setRising(bad, 50));
                Twins.noArgument(Twins::full, x -> x.setRising(50, bad));
                Twins.noArgument(Twins::full, x -> x.setRising(bad, bad));
            }
        });
    }

    private static void slope(String words, int rise, int fall, int level) {
        Sentence.holds("Promise 29", words, () -> {
            StolenVoices x = new StolenVoices();
            x.setRising(rise, fall);
            x.press(0, 100);
            x.pass(1);
            Check.same("rise " + rise, level, x.levelOf(0));
        });
    }

    private static void setStaying() {
        Sentence.holds("Promise 30", "Changes how levels stay and die away", () -> {
            StolenVoices x = new StolenVoices();
            x.setStaying(85, 30);
            x.press(0, 100);
            x.pass(20);
            Check.same("it stays", 850, x.levelOf(0));
            x.letGo(0);
            x.pass(1);
            Check.same("it dies", 820, x.levelOf(0));
        });
        Sentence.holds("Promise 30", "`share`: 0 to 100", () -> {
            for (int share : new int[] {0, 1, 99, 100}) {
                StolenVoices x = new StolenVoices();
                x.setStaying(share, 50);
                x.press(0, 100);
                x.pass(20);
                Check.same("share " + share, 10 * share, x.levelOf(0));
                Check.same("it stays", 3, x.phaseOf(0));
            }
        });
        Sentence.holds("Promise 30", "`dying`: 1 to 1000", () -> {
            for (int dying : new int[] {1, 2, 999, 1000}) {
                StolenVoices x = new StolenVoices();
                x.setStaying(60, dying);
                x.press(0, 100);
                x.pass(5);
                x.letGo(0);
                x.pass(1);
                Check.same("dying " + dying, 1000 - dying, x.levelOf(0));
            }
        });
        Sentence.holds("Promise 30", "Returns the previous share", () -> {
            StolenVoices x = new StolenVoices();
            Check.same("at first", 60, x.setStaying(0, 1000));
            Check.same("the least", 0, x.setStaying(100, 1));
            Check.same("the greatest", 100, x.setStaying(100, 5));
            x.undo();
            x.undo();
            Check.same("taken back", 0, x.setStaying(7, 8));
            Check.same("not that which was refused", "IllegalArgumentException",
                Check.answer(() -> x.setStaying(9, 0)));
            Check.same("but the one before", 7, x.setStaying(9, 9));
        });
        Sentence.holds("Promise 30", "if share or dying is out of range", () -> {
            for (int bad : NO_SLOPES) {
                Twins.noArgument(Twins::full, x -> x.setStaying(50, bad));
            }
            for (int bad : new int[] {-1, 101, Integer.MIN_VALUE, Integer.MAX_VALUE}) {
                Twins.noArgument(Twins::full, x -> x.setStaying(bad, 50));
                Twins.noArgument(Twins::full, x -> x.setStaying(bad, 0));
            }
        });
    }

    // ---- promises 31 and 32

    private static void setRule() {
        Sentence.holds("Promise 31", "Changes the rule", () -> {
            StolenVoices x = Check.pressed(6, 100);
            x.pass(3);
            x.letGo(4);
            x.pass(1);
            int[] due = {4, 0, 4, 4};
            for (int rule = 0; rule <= 3; rule++) {
                x.setRule(rule);
                Check.same("the victim by the rule " + rule, due[rule], x.victim());
            }
            x.press(4, 100);
            int[] anew = {4, 0, 0, -1};
            for (int rule = 3; rule >= 0; rule--) {
                x.setRule(rule);
                Check.same("none dies, rule " + rule, anew[rule], x.victim());
            }
        });
        Sentence.holds("Promise 31", "0 to 3", () -> {
            StolenVoices x = new StolenVoices();
            x.setRule(3);
            Check.same("the greatest", 3, x.rule());
            x.setRule(0);
            Check.same("the least", 0, x.rule());
        });
        Sentence.holds("Promise 31", "Returns the previous rule", () -> {
            StolenVoices x = new StolenVoices();
            Check.same("at first", 0, x.setRule(3));
            Check.same("the greatest", 3, x.setRule(1));
            Check.same("another one", 1, x.setRule(1));
            Check.same("the same", 1, x.setRule(0));
            Check.same("the least", 0, x.setRule(2));
        });
        Sentence.holds("Promise 31", "if rule is out of range", () -> {
            for (int bad : new int[] {-1, 4, Integer.MIN_VALUE, Integer.MAX_VALUE}) {
                Twins.noArgument(Twins::full, x -> x.setRule(bad));
            }
        });
    }

    private static void setComingBack() {
        Sentence.holds("Promise 32", "Lets keys come back, or not", () -> {
            StolenVoices x = Check.pressed(7, 100);
            x.letGo(1);
            x.setComingBack(true);
            x.setComingBack(true);
            Check.same("not without a tick", 1, x.keysWaiting());
            x.pass(1);
            Check.same("back", 1, x.voiceOf(0));
            StolenVoices y = Check.pressed(7, 100);
            y.letGo(1);
            y.setComingBack(false);
            y.pass(1);
            Check.same("not back", -1, y.voiceOf(0));
        });
        Sentence.holds("Promise 32", "whether they come back then", () -> {
            StolenVoices x = Check.pressed(7, 100);
            x.setComingBack(true);
            x.setComingBack(false);
            x.letGo(1);
            x.pass(99);
            Check.same("off", -1, x.voiceOf(0));
            x.setComingBack(true);
            x.pass(1);
            Check.same("on", 1, x.voiceOf(0));
            x.setComingBack(false);
            Check.same("a key that came back stays", 1, x.voiceOf(0));
        });
        Sentence.holds("Promise 32", "Returns how many keys are down and have no voice", () -> {
            Check.same("no key is down, on", 0, new StolenVoices().setComingBack(true));
            Check.same("no key is down, off", 0, new StolenVoices().setComingBack(false));
            Check.same("six have voices", 0, Check.pressed(6, 1).setComingBack(true));
            Check.same("one of seven, on", 1, Check.pressed(7, 1).setComingBack(true));
            Check.same("one of seven, off", 1, Check.pressed(7, 1).setComingBack(false));
            Check.same("54 of 60", 54, Check.pressed(60, 1).setComingBack(true));
            StolenVoices x = Check.pressed(8, 100);
            x.letGo(7);
            x.pass(1);
            Check.same("a voice is free, but not before a tick", 2, x.setComingBack(true));
            Check.same("nor then", 2, x.setComingBack(true));
            x.pass(1);
            Check.same("one is back", 1, x.setComingBack(false));
        });
    }

    // ---- promise 33

    private static void pass() {
        Sentence.holds("Promise 33", "Lets ticks pass", () -> {
            StolenVoices x = Check.pressed(1, 100);
            x.pass(3);
            Check.same("three", 600, x.levelOf(0));
            Check.same("ticks", 3, x.ticks());
            StolenVoices y = Check.pressed(1, 100);
            y.pass(1);
            y.pass(1);
            y.pass(1);
            Check.same("one by one", 600, y.levelOf(0));
        });
        Sentence.holds("Promise 33", "1 to 99", () -> {
            StolenVoices x = new StolenVoices();
            x.setRising(1, 1);
            x.press(0, 100);
            x.pass(1);
            Check.same("the least", 1, x.levelOf(0));
            x.pass(99);
            Check.same("the greatest", 100, x.levelOf(0));
            Check.same("ticks", 100, x.ticks());
        });
        Sentence.holds("Promise 33", "Returns how many notes end in them", () -> {
            Check.same("all voices are free", 0, new StolenVoices().pass(99));
            Check.same("no key is let go", 0, Check.pressed(6, 1).pass(99));
            StolenVoices x = sixKept();
            Check.same("all are kept", 0, x.pass(99));
            x.setPedal(false);
            Check.same("600, 50 a tick", 0, x.pass(11));
            Check.same("all at once", 6, x.pass(1));
            Check.same("once only", 0, x.pass(99));
            StolenVoices y = Check.pressed(6, 100);
            y.setComingBack(true);
            y.setRule(1);
            y.press(6, 1);
            y.letGo(6);
            Check.same("in the first of many", 1, y.pass(99));
            Check.same("its voice has the one that came back", 0, y.voiceOf(0));
            y.letGo(0);
            y.letGo(1);
            Check.same("not yet", 0, y.pass(11));
            Check.same("in the last of twelve", 2, y.pass(1));
            y.letGo(2);
            y.pass(5);
            y.letGo(3);
            Check.same("one of two", 1, y.pass(7));
        });
        Sentence.holds("Promise 33", "if ticks is out of range", () -> {
            for (int bad : new int[] {0, 100, -1, Integer.MIN_VALUE, Integer.MAX_VALUE}) {
                Twins.noArgument(Twins::full, x -> x.pass(bad));
                Twins.noArgument(StolenVoices::new, x -> x.pass(bad));
            }
        });
    }
}
