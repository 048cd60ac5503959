/** The terms "PRESSING" and "NOTES", sentence by sentence. */
final class PressingEdges {
    private static final String PART = "PRESSING";
    private static final String NOTES = "NOTES";

    private PressingEdges() {
    }

    static void all() {
        Sentence.holds(PART, "When a key is pressed that is not down, it is down then", PressingEdges::downThen);
        Sentence.holds(PART, "with its strength", PressingEdges::withItsStrength);
        Sentence.holds(PART, "If a voice has this key (dying away", PressingEdges::anewWhenDying);
        Sentence.holds(PART, "or kept by the pedal), it begins anew", PressingEdges::anewWhenKept);
        Sentence.holds(PART, "its phase is 1, it has the new strength, its level stays", PressingEdges::anewFromPhases);
        Sentence.holds(PART, "Otherwise the lowest free voice begins with it at the level 0",
            PressingEdges::lowestFree);
        Sentence.holds(PART, "If there is none, a voice is stolen, by the rule", PressingEdges::stolenIfNoneIsFree);
        Sentence.holds(PART, "its note has been stolen, and it begins with the new key at the level 0",
            PressingEdges::stolenBegins);
        Sentence.holds(PART, "0: the voice with the lowest level", PressingEdges::ruleLowest);
        Sentence.holds(PART, "of several the oldest one (at first)", PressingEdges::ruleLowestOfSeveral);
        Sentence.holds(PART, "1: the oldest one", PressingEdges::ruleOldest);
        Sentence.holds(PART, "2: of those that die away the oldest one", PressingEdges::ruleDying);
        Sentence.holds(PART, "or, if there is none, the oldest one of all", PressingEdges::ruleDyingOrOldest);
        Sentence.holds(PART, "3: as 2", PressingEdges::ruleDyingOnly);
        Sentence.holds(PART, "but if none dies away, no voice is stolen", PressingEdges::ruleDyingOrNone);
        Sentence.holds(PART, "the key is down without a voice (its note has been refused)",
            PressingEdges::refusedKey);
        Sentence.holds(PART, "When a key is let go that is down, it is up then", PressingEdges::upThen);
        Sentence.holds(PART, "If a voice has it, that is kept, if the pedal is down", PressingEdges::keptByPedal);
        Sentence.holds(PART, "otherwise it dies away (phase 4) from now on", PressingEdges::diesFromNowOn);
        Sentence.holds(PART, "When the pedal is lifted, all voices that are kept die away from now on",
            PressingEdges::pedalLifted);
        Sentence.holds(PART, "(A voice that begins anew is not kept any more.)", PressingEdges::notKeptAnyMore);
        Sentence.holds(PART, "If keys come back (a setting; off at first)", PressingEdges::backOffAtFirst);
        Sentence.holds(PART, "a setting; off at first), then at the end of each tick", PressingEdges::backAtTheEnd);
        Sentence.holds(PART, "as long as there is a free voice", PressingEdges::backWhileFree);
        Sentence.holds(PART, "and a key that is down and has no voice", PressingEdges::backWhileWaiting);
        Sentence.holds(PART, "the one of these that was pressed latest", PressingEdges::backLatest);
        Sentence.holds(PART, "gets the lowest free voice", PressingEdges::backLowest);
        Sentence.holds(PART, "which begins with its strength at the level 0", PressingEdges::backStrength);
        Sentence.holds(NOTES, "Each time a voice begins with a key at the level 0, a note begins",
            PressingEdges::noteBegins);
        Sentence.holds(NOTES, "It has ended when the voice became free", PressingEdges::noteEnded);
        Sentence.holds(NOTES, "or been stolen", PressingEdges::noteStolen);
        Sentence.holds(NOTES, "other notes sound", PressingEdges::noteSounds);
        Sentence.holds(NOTES, "A voice that begins anew goes on with its note", PressingEdges::noteGoesOn);
    }

    // ---- pressing

    private static void downThen() {
        StolenVoices x = new StolenVoices();
        for (int key : new int[] {0, 1, 30, 58, 59}) {
            Check.same("up", false, x.isDown(key));
            x.press(key, 50);
            Check.same("down", true, x.isDown(key));
        }
        Check.same("five are down", 5, x.keysDown());
        StolenVoices y = Check.pressed(60, 1);
        Check.same("all are down, most of them without a voice", 60, y.keysDown());
    }

    private static void withItsStrength() {
        StolenVoices x = new StolenVoices();
        x.setRising(1000, 1000);
        x.press(0, 1);
        x.press(1, 100);
        x.press(2, 42);
        x.pass(1);
        Check.same("their peaks", "[10, 1000, 420, 0, 0, 0]", Check.levels(x));
    }

    private static void anewWhenDying() {
        StolenVoices x = Check.pressed(3, 100);
        x.pass(2);
        x.letGo(1);
        x.pass(1);
        Check.same("it dies", 4, x.phaseOf(1));
        Check.same("its own voice, though others are free", 1, x.press(1, 50));
        Check.same("three sound", 3, x.sounding());
        StolenVoices y = Check.pressed(6, 100);
        y.letGo(4);
        Check.same("its own voice, and none is stolen", 4, y.press(4, 50));
        Check.same("none stolen", 0, y.stolen());
        y.setRule(3);
        y.letGo(5);
        Check.same("its own voice, and none is refused", 5, y.press(5, 50));
        Check.same("none refused", 0, y.refused());
    }

    private static void anewWhenKept() {
        StolenVoices x = Check.pressed(3, 100);
        x.setPedal(true);
        x.letGo(1);
        x.pass(1);
        Check.same("it is kept", true, x.isKept(1));
        Check.same("its own voice, though others are free", 1, x.press(1, 50));
        Check.same("it rises", 1, x.phaseOf(1));
        StolenVoices y = Check.pressed(6, 100);
        y.setPedal(true);
        y.letGo(4);
        y.setRule(3);
        Check.same("its own voice, and none is stolen", 4, y.press(4, 50));
        Check.same("none stolen", 0, y.stolen());
        Check.same("none refused", 0, y.refused());
        StolenVoices z = Check.pressed(2, 100);
        z.letGo(0);
        z.pass(1);
        z.setPedal(true);
        Check.same("when it has become free, the lowest free one", 0, z.press(5, 9));
    }

    /** Voice 0 begins anew, with another strength, from a phase at a level. */
    private static void anewFrom(StolenVoices x, int phase, int level) {
        Check.same("phase before", phase, x.phaseOf(0));
        Check.same("level before", level, x.levelOf(0));
        Check.same("its own voice", 0, x.press(0, 77));
        Check.same("phase from " + phase, 1, x.phaseOf(0));
        Check.same("level from " + phase, level, x.levelOf(0));
        x.setRising(1000, 1);
        x.pass(1);
        Check.same("the new strength's peak from " + phase, 770, x.levelOf(0));
    }

    private static void anewFromPhases() {
        StolenVoices rising = Check.pressed(1, 100);
        rising.setPedal(true);
        rising.pass(1);
        rising.letGo(0);
        anewFrom(rising, 1, 200);
        StolenVoices falling = Check.pressed(1, 100);
        falling.setPedal(true);
        falling.pass(6);
        falling.letGo(0);
        anewFrom(falling, 2, 900);
        StolenVoices staying = Check.pressed(1, 100);
        staying.setPedal(true);
        staying.pass(9);
        staying.letGo(0);
        anewFrom(staying, 3, 600);
        StolenVoices dying = Check.pressed(1, 100);
        dying.pass(5);
        dying.letGo(0);
        dying.pass(19);
        anewFrom(dying, 4, 50);
        StolenVoices silent = Check.pressed(1, 100);
        silent.letGo(0);
        anewFrom(silent, 4, 0);
    }

    private static void lowestFree() {
        StolenVoices x = new StolenVoices();
        Check.same("all are free", 0, x.press(30, 100));
        for (int n = 1; n < 6; n++) {
            Check.same("the next", n, x.press(n, 100));
        }
        x.pass(5);
        x.setStaying(60, 1000);
        x.letGo(2);
        x.letGo(4);
        x.letGo(5);
        x.pass(1);
        Check.same("2 of 2, 4 and 5", 2, x.press(50, 9));
        Check.same("at the level 0", 0, x.levelOf(2));
        Check.same("it rises", 1, x.phaseOf(2));
        Check.same("with the key", 50, x.keyOf(2));
        Check.same("4 of 4 and 5", 4, x.press(51, 9));
        Check.same("only 5", 5, x.press(52, 9));
        Check.same("none stolen", 0, x.stolen());
    }

    private static void stolenIfNoneIsFree() {
        for (int rule = 0; rule <= 2; rule++) {
            StolenVoices x = Check.pressed(5, 100);
            x.setRule(rule);
            Check.same("one is free", 5, x.press(40, 100));
            Check.same("none stolen", 0, x.stolen());
            Check.same("none is free", 0, x.press(41, 100));
            Check.same("one stolen", 1, x.stolen());
            x.setStaying(60, 1000);
            x.letGo(40);
            x.pass(1);
            Check.same("one is free again", 5, x.press(42, 100));
            Check.same("still one stolen", 1, x.stolen());
        }
    }

    private static void stolenBegins() {
        StolenVoices x = Check.pressed(6, 100);
        x.pass(5);
        Check.same("the oldest", 0, x.press(59, 30));
        Check.same("its key", 59, x.keyOf(0));
        Check.same("its level", 0, x.levelOf(0));
        Check.same("its phase", 1, x.phaseOf(0));
        Check.same("stolen", 1, x.stolen());
        Check.same("the old key has no voice", -1, x.voiceOf(0));
        Check.same("but it is down", true, x.isDown(0));
        Check.same("a note began", 7, x.notesByBeginning());
        x.pass(2);
        Check.same("the new strength's peak", 300, x.levelOf(0));
        Check.same("the others fall", 800, x.levelOf(1));
    }

    // ---- rules

    private static void ruleLowest() {
        for (int low = 0; low < 6; low++) {
            StolenVoices x = new StolenVoices();
            for (int k = 0; k < 6; k++) {
                x.press(k, k == low ? 50 : 51);
            }
            x.setRising(1000, 1);
            x.pass(1);
            Check.same("500 of 510", low, x.victim());
            Check.same("it is stolen", low, x.press(50, 9));
        }
        for (int low = 0; low < 6; low++) {
            StolenVoices x = Check.pressed(6, 100);
            x.pass(5);
            x.setStaying(60, 1);
            x.setRising(1000, 1);
            x.letGo(low);
            x.pass(1);
            x.press(low, 100);
            x.setRising(1000, 2);
            x.pass(1);
            Check.same("levels", 5 * 997 + 1000, x.loudnessByVoices());
            x.letGo((low + 1) % 6);
            x.setStaying(60, 3);
            x.setRising(1000, 2);
            x.pass(1);
            Check.same("by 1 lower than the others", (low + 1) % 6, x.victim());
        }
        StolenVoices x = Check.pressed(6, 50);
        x.setRising(1000, 1);
        x.pass(1);
        x.setStaying(60, 1);
        x.letGo(3);
        x.pass(1);
        Check.same("as low by falling as by dying", "[499, 499, 499, 499, 499, 499]", Check.levels(x));
        x.pass(1);
        x.setRising(1000, 2);
        x.pass(1);
        Check.same("levels", "[496, 496, 496, 497, 496, 496]", Check.levels(x));
        Check.same("the oldest of the five that are lower by 1", 0, x.press(50, 9));
        x.setStaying(60, 6);
        x.pass(1);
        Check.same("levels", "[90, 494, 494, 491, 494, 494]", Check.levels(x));
        x.setRising(1000, 1);
        Check.same("the lowest, though it is the youngest", 0, x.press(51, 60));
        x.pass(1);
        Check.same("the lowest, though it dies", 3, x.press(52, 60));
    }

    private static void ruleLowestOfSeveral() {
        StolenVoices x = Check.pressed(6, 100);
        Check.same("at first the rule 0", 0, x.rule());
        x.letGo(0);
        x.press(0, 100);
        Check.same("all at 0: 0 began anew, so the oldest is 1", 1, x.press(50, 100));
        Check.same("then 2", 2, x.press(51, 100));
        x.letGo(3);
        Check.same("then 3, though it dies", 3, x.press(52, 100));
        x.pass(1);
        Check.same("all at 200", "[200, 200, 200, 200, 200, 200]", Check.levels(x));
        Check.same("4 is the oldest", 4, x.press(53, 100));
        Check.same("4 is the only one at 0", 4, x.press(54, 100));
        StolenVoices y = Check.pressed(4, 50);
        y.setRising(1000, 1000);
        y.pass(2);
        y.press(4, 30);
        y.press(5, 30);
        y.pass(1);
        Check.same("four stay at 300, two are there at their peaks", 1800, y.loudnessByVoices());
        Check.same("the oldest of all that are as low", 0, y.press(50, 60));
        y.letGo(4);
        y.press(4, 30);
        y.pass(1);
        Check.same("levels", "[600, 300, 300, 300, 300, 180]", Check.levels(y));
        Check.same("only one is the lowest", 5, y.press(51, 60));
        y.letGo(1);
        y.press(1, 30);
        Check.same("of 1, 2, 3 and 4 at 300 the oldest", 5, y.victim());
        y.pass(1);
        Check.same("of 2 and 3 at 300", 4, y.victim());
    }

    private static void ruleOldest() {
        StolenVoices x = Check.pressed(6, 100);
        x.setRule(1);
        x.pass(3);
        x.letGo(4);
        x.letGo(5);
        Check.same("not one that dies", 0, x.press(50, 1));
        Check.same("not the lowest", 1, x.press(51, 1));
        x.setPedal(true);
        x.letGo(2);
        Check.same("a kept one, if it is the oldest", 2, x.press(52, 1));
        x.letGo(3);
        x.press(3, 100);
        Check.same("3 began anew", 4, x.press(53, 1));
        Check.same("one that dies, if it is the oldest", 5, x.press(54, 1));
        Check.same("the first stolen one again", 0, x.press(55, 1));
    }

    private static void ruleDying() {
        StolenVoices x = Check.pressed(6, 100);
        x.setRule(2);
        x.pass(3);
        x.letGo(5);
        Check.same("the only one that dies", 5, x.press(50, 1));
        x.letGo(4);
        x.letGo(1);
        x.letGo(3);
        Check.same("of 1, 3 and 4, in whatever order they were let go", 1, x.press(51, 1));
        x.press(3, 100);
        x.letGo(3);
        Check.same("3 began anew, so 4 is older", 4, x.press(52, 1));
        Check.same("then 3", 3, x.press(53, 1));
        x.letGo(53);
        x.letGo(2);
        Check.same("the oldest, not the lowest", 2, x.press(54, 1));
    }

    private static void ruleDyingOrOldest() {
        StolenVoices x = Check.pressed(6, 100);
        x.setRule(2);
        Check.same("none dies", 0, x.press(50, 1));
        x.setPedal(true);
        x.letGo(3);
        Check.same("a kept one does not die", 1, x.press(51, 1));
        x.setPedal(false);
        Check.same("now it does", 3, x.press(52, 1));
        Check.same("none dies again", 2, x.press(53, 1));
    }

    private static void ruleDyingOnly() {
        StolenVoices x = Check.pressed(6, 100);
        x.setRule(3);
        x.pass(3);
        x.letGo(5);
        Check.same("the only one that dies", 5, x.press(50, 1));
        x.letGo(4);
        x.letGo(1);
        Check.same("of 1 and 4 the oldest", 1, x.press(51, 1));
        Check.same("then 4", 4, x.press(52, 1));
        Check.same("stolen", 3, x.stolen());
        Check.same("none refused", 0, x.refused());
        x.letGo(0);
        x.setStaying(60, 1000);
        x.pass(1);
        Check.same("a free one begins", 0, x.press(53, 1));
        Check.same("none stolen by that", 3, x.stolen());
    }

    private static void ruleDyingOrNone() {
        StolenVoices x = Check.pressed(6, 100);
        x.setRule(3);
        x.pass(1);
        String before = Check.keys(x) + Check.levels(x) + Check.phases(x);
        Check.same("none dies", -1, x.press(50, 1));
        Check.same("the voices", before, Check.keys(x) + Check.levels(x) + Check.phases(x));
        x.setPedal(true);
        x.letGo(2);
        Check.same("a kept one does not die", -1, x.press(51, 1));
        Check.same("stolen", 0, x.stolen());
        Check.same("no note began", 6, x.notesByBeginning());
    }

    private static void refusedKey() {
        StolenVoices x = Check.pressed(6, 100);
        x.setRule(3);
        x.press(50, 7);
        Check.same("down", true, x.isDown(50));
        Check.same("without a voice", -1, x.voiceOf(50));
        Check.same("refused", 1, x.refused());
        Check.same("it waits", 1, x.keysWaiting());
        Check.same("let go, it has no voice", -1, x.letGo(50));
        x.press(50, 7);
        Check.same("refused once more", 2, x.refused());
        x.setComingBack(true);
        x.letGo(0);
        x.pass(1);
        Check.same("it comes back", 0, x.voiceOf(50));
        Check.same("it has been refused all the same", 2, x.refused());
    }

    // ---- letting go, the pedal

    private static void upThen() {
        StolenVoices x = Check.pressed(7, 50);
        for (int key : new int[] {0, 1, 6}) {
            Check.same("down", true, x.isDown(key));
            x.letGo(key);
            Check.same("up", false, x.isDown(key));
        }
        x.setPedal(true);
        x.letGo(2);
        Check.same("up, with the pedal down", false, x.isDown(2));
        Check.same("three are down", 3, x.keysDown());
    }

    private static void keptByPedal() {
        for (int ticks : new int[] {1, 5, 9}) {
            StolenVoices x = Check.pressed(1, 100);
            x.setPedal(true);
            x.pass(ticks);
            int phase = x.phaseOf(0);
            Check.same("rising, falling, or staying", ticks / 4 + 1, phase);
            x.letGo(0);
            Check.same("kept", true, x.isKept(0));
            Check.same("in its phase", phase, x.phaseOf(0));
            x.pass(99);
            Check.same("and goes on to its rest", 600, x.levelOf(0));
            Check.same("kept on", true, x.isKept(0));
        }
        StolenVoices y = Check.pressed(7, 100);
        y.setPedal(true);
        y.letGo(0);
        Check.same("no voice has it, none is kept", 0, y.setPedal(false));
    }

    private static void diesFromNowOn() {
        StolenVoices x = Check.pressed(2, 100);
        x.pass(5);
        x.letGo(0);
        Check.same("phase", 4, x.phaseOf(0));
        Check.same("not kept", false, x.isKept(0));
        Check.same("its level is the same as yet", 1000, x.levelOf(0));
        x.pass(1);
        Check.same("one tick", 950, x.levelOf(0));
        x.setPedal(true);
        x.pass(1);
        Check.same("the pedal comes too late", 900, x.levelOf(0));
        x.setPedal(false);
        x.letGo(1);
        Check.same("the pedal is up again", 4, x.phaseOf(1));
    }

    private static void pedalLifted() {
        StolenVoices x = Check.pressed(6, 100);
        x.pass(5);
        x.setPedal(true);
        for (int k = 0; k < 6; k++) {
            x.letGo(k);
        }
        Check.same("all are kept", 6, x.setPedal(false));
        Check.same("all die", "[4, 4, 4, 4, 4, 4]", Check.phases(x));
        Check.same("from now on", 6000, x.loudnessByVoices());
        x.pass(1);
        Check.same("a tick later", 5700, x.loudnessByVoices());
        StolenVoices y = Check.pressed(6, 100);
        y.setPedal(true);
        y.letGo(5);
        Check.same("only one is kept", 1, y.setPedal(false));
        Check.same("the others go on", "[1, 1, 1, 1, 1, 4]", Check.phases(y));
        StolenVoices z = new StolenVoices();
        z.setPedal(true);
        Check.same("all are free", 0, z.setPedal(false));
    }

    private static void notKeptAnyMore() {
        StolenVoices x = Check.pressed(2, 100);
        x.setPedal(true);
        x.letGo(0);
        x.letGo(1);
        Check.same("kept", true, x.isKept(0));
        x.press(0, 50);
        Check.same("not any more", false, x.isKept(0));
        Check.same("only 1 is kept", 1, x.setPedal(false));
        Check.same("0 rises on", "[1, 4, 0, 0, 0, 0]", Check.phases(x));
        x.setPedal(true);
        x.letGo(0);
        Check.same("kept again", true, x.isKept(0));
    }

    // ---- keys that come back

    /** Key 0 waits, the keys 1 to 6 have the voices 1 to 5 and 0, all at the level 0. */
    private static StolenVoices oneWaits() {
        StolenVoices x = Check.pressed(7, 100);
        Check.same("it waits", 0, x.nextBack());
        return x;
    }

    private static void backOffAtFirst() {
        StolenVoices x = oneWaits();
        x.letGo(3);
        x.pass(99);
        Check.same("off", -1, x.voiceOf(0));
        Check.same("a voice is free", 5, x.sounding());
        x.setComingBack(true);
        Check.same("not before a tick", -1, x.voiceOf(0));
        x.pass(1);
        Check.same("on", 3, x.voiceOf(0));
        StolenVoices y = oneWaits();
        y.setComingBack(true);
        y.setComingBack(false);
        y.letGo(3);
        y.pass(99);
        Check.same("off again", -1, y.voiceOf(0));
    }

    private static void backAtTheEnd() {
        StolenVoices x = oneWaits();
        x.setComingBack(true);
        x.letGo(6);
        Check.same("the lowest voice ends", 1, x.pass(1));
        Check.same("and begins again in the same tick", 0, x.voiceOf(0));
        Check.same("behind all voices' moves", 0, x.levelOf(0));
        Check.same("it rises", 1, x.phaseOf(0));
        x.pass(1);
        Check.same("its first tick", 200, x.levelOf(0));
        x.press(50, 1);
        x.letGo(50);
        Check.same("it was stolen, and comes back", 1, x.pass(2));
        Check.same("in the first of two ticks", 200, x.levelOf(0));
    }

    private static void backWhileFree() {
        StolenVoices x = new StolenVoices();
        x.setRule(1);
        for (int k = 0; k < 14; k++) {
            x.press(k, 100);
        }
        Check.same("eight wait", 8, x.setComingBack(true));
        x.pass(1);
        Check.same("no voice is free", 8, x.keysWaiting());
        for (int k = 8; k < 14; k++) {
            x.letGo(k);
        }
        x.setStaying(60, 1000);
        Check.same("all six end", 6, x.pass(1));
        Check.same("all six begin", 6, x.sounding());
        Check.same("two still wait", 2, x.keysWaiting());
        Check.same("notes", 20, x.notesByBeginning());
        x.letGo(7);
        Check.same("one ends", 1, x.pass(1));
        Check.same("one waits", 1, x.keysWaiting());
    }

    private static void backWhileWaiting() {
        StolenVoices x = oneWaits();
        x.setComingBack(true);
        for (int k = 1; k < 7; k++) {
            x.letGo(k);
        }
        Check.same("all end", 6, x.pass(1));
        Check.same("only one begins", 1, x.sounding());
        Check.same("none waits", 0, x.keysWaiting());
        x.pass(99);
        Check.same("it has one voice only", 1, x.sounding());
        StolenVoices y = oneWaits();
        y.setComingBack(true);
        y.letGo(0);
        y.letGo(6);
        y.pass(1);
        Check.same("it is up, and does not come back", -1, y.voiceOf(0));
        StolenVoices z = new StolenVoices();
        z.setComingBack(true);
        z.pass(99);
        Check.same("no key is down", 0, z.sounding());
    }

    private static void backLatest() {
        StolenVoices x = new StolenVoices();
        x.setRule(3);
        for (int k = 0; k < 6; k++) {
            x.press(k, 100);
        }
        for (int key : new int[] {40, 20, 59, 10, 30}) {
            x.press(key, 100);
        }
        x.letGo(20);
        x.press(20, 100);
        x.setComingBack(true);
        x.setStaying(60, 1000);
        int[] due = {20, 30, 10, 59, 40, -1};
        for (int n = 0; n < 6; n++) {
            x.letGo(n);
            x.pass(1);
            Check.same("the latest of those that wait", due[n], x.keyOf(n));
        }
    }

    private static void backLowest() {
        StolenVoices x = new StolenVoices();
        x.setRule(3);
        for (int k = 0; k < 8; k++) {
            x.press(k, 100);
        }
        x.setComingBack(true);
        x.letGo(5);
        x.letGo(4);
        x.letGo(2);
        x.pass(1);
        Check.same("the latest gets the lowest", "[0, 1, 7, 3, 6, -1]", Check.keys(x));
        Check.same("7 began before 6", 0, x.oldest());
        x.setStaying(60, 1000);
        x.letGo(0);
        x.letGo(1);
        x.letGo(3);
        x.pass(1);
        Check.same("7 is the oldest then", 2, x.oldest());
        x.letGo(7);
        x.pass(1);
        Check.same("6 is the only one", 4, x.oldest());
    }

    private static void backStrength() {
        for (int strength : new int[] {1, 50, 100}) {
            StolenVoices x = Check.pressed(6, 33);
            x.setRule(3);
            x.press(6, strength);
            x.setComingBack(true);
            x.pass(9);
            x.letGo(2);
            x.setStaying(60, 1000);
            x.setRising(1000, 1000);
            x.pass(1);
            Check.same("it is back", 2, x.voiceOf(6));
            Check.same("at 0", 0, x.levelOf(2));
            x.pass(1);
            Check.same("its peak", 10 * strength, x.levelOf(2));
        }
        StolenVoices y = Check.pressed(6, 33);
        y.setRule(3);
        y.press(6, 80);
        y.letGo(6);
        y.press(6, 20);
        y.setComingBack(true);
        y.letGo(0);
        y.pass(2);
        Check.same("the strength of the last press", 200, y.levelOf(0));
        Check.same("its peak", 2, y.phaseOf(0));
    }

    // ---- notes

    private static void noteBegins() {
        StolenVoices x = new StolenVoices();
        Check.same("none", 0, x.notesByBeginning());
        for (int k = 0; k < 6; k++) {
            x.press(k, 1);
            Check.same("with a free voice", k + 1, x.notesByBeginning());
        }
        x.press(6, 1);
        Check.same("with a stolen voice", 7, x.notesByBeginning());
        x.setRule(3);
        x.press(7, 1);
        Check.same("not when refused", 7, x.notesByBeginning());
        x.setComingBack(true);
        x.letGo(6);
        x.pass(1);
        Check.same("with a voice that comes back", 8, x.notesByBeginning());
    }

    private static void told(StolenVoices x, int began, int stolen, int sounding) {
        Check.same("began", began, x.notesByBeginning());
        Check.same("by ends", began, x.notesByEnds());
        Check.same("stolen", stolen, x.stolen());
        Check.same("sounding", sounding, x.sounding());
    }

    private static void noteEnded() {
        StolenVoices x = Check.pressed(2, 100);
        x.pass(1);
        x.letGo(0);
        Check.same("dying", 0, x.pass(3));
        told(x, 2, 0, 2);
        Check.same("free", 1, x.pass(1));
        told(x, 2, 0, 1);
    }

    private static void noteStolen() {
        StolenVoices x = Check.pressed(6, 100);
        told(x, 6, 0, 6);
        x.press(6, 100);
        told(x, 7, 1, 6);
        x.setRule(2);
        x.letGo(6);
        x.press(7, 100);
        x.press(8, 100);
        told(x, 9, 3, 6);
        Check.same("a stolen one does not end once more", 0, x.pass(99));
    }

    private static void noteSounds() {
        StolenVoices x = Check.pressed(3, 100);
        x.setPedal(true);
        x.letGo(0);
        told(x, 3, 0, 3);
        x.pass(99);
        told(x, 3, 0, 3);
        x.setStaying(0, 50);
        x.setRising(1000, 1000);
        x.press(3, 1);
        x.pass(2);
        Check.same("at the level 0", 0, x.levelOf(3));
        told(x, 4, 0, 4);
    }

    private static void noteGoesOn() {
        StolenVoices x = Check.pressed(1, 100);
        x.letGo(0);
        x.press(0, 100);
        Check.same("also at the level 0", 0, x.levelOf(0));
        told(x, 1, 0, 1);
        x.pass(1);
        x.setPedal(true);
        x.letGo(0);
        x.press(0, 5);
        told(x, 1, 0, 1);
        x.setPedal(false);
        x.letGo(0);
        Check.same("it ends once", 1, x.pass(99));
        told(x, 1, 0, 0);
        x.press(0, 5);
        told(x, 2, 0, 1);
    }
}
