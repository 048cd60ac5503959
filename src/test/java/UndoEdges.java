import java.util.function.Consumer;
import java.util.function.Supplier;

/** The term "ACTIONS AND UNDO", and promise 34, sentence by sentence. */
final class UndoEdges {
    private static final String PART = "ACTIONS AND UNDO";

    private UndoEdges() {
    }

    static void all() {
        Sentence.holds(PART, "change the state", UndoEdges::changeTheState);
        Sentence.holds(PART, "which consists of everything but the text and the save slots", UndoEdges::notTheText);
        Sentence.holds(PART, "Each call of one of them that does not throw an exception is an action",
            UndoEdges::eachIsAnAction);
        Sentence.holds(PART, "also if nothing becomes different", UndoEdges::nothingDifferent);
        Sentence.holds(PART, "(undo is none)", UndoEdges::undoIsNone);
        Sentence.holds(PART, "Before each action, the state is remembered", UndoEdges::before);
        Sentence.holds(PART, "At most 14 states are remembered", UndoEdges::atMost14);
        Sentence.holds(PART, "when one more is remembered, the oldest one is forgotten", UndoEdges::oldestForgotten);
        Sentence.holds(PART, "load and restore are not actions", UndoEdges::loadAndRestore);
        Sentence.holds("Promise 34", "Takes back the last action that is remembered", UndoEdges::takesBack);
        Sentence.holds("Promise 34", "Returns how many states are still remembered", UndoEdges::stillRemembered);
        Sentence.holds("Promise 34", "if none is remembered", UndoEdges::noneRemembered);
    }

    private static StolenVoices passed(int n) {
        StolenVoices x = new StolenVoices();
        for (int i = 0; i < n; i++) {
            x.pass(1);
        }
        return x;
    }

    private static void takenBack(String what, Consumer<StolenVoices> action) {
        takenBack(what, Twins::full, action);
    }

    /** The maker's objects remember 14 states. */
    private static void takenBack(String what, Supplier<StolenVoices> maker, Consumer<StolenVoices> action) {
        StolenVoices x = maker.get();
        action.accept(x);
        Check.same(what + " changes something", false, Check.print(maker.get()).equals(Check.print(x)));
        StolenVoices y = maker.get();
        action.accept(y);
        Check.same(what + " is remembered", 13, y.undo());
        Check.same(what + " is taken back", Check.print(maker.get()), Check.print(y));
        StolenVoices z = maker.get();
        action.accept(z);
        z.undo();
        Check.same(what + ", settings", Twins.settings(maker.get()), Twins.settings(z));
    }

    /** Key 7 waits for a voice that dies away. */
    private static StolenVoices soonFree() {
        StolenVoices x = Twins.full();
        x.setPedal(false);
        return x;
    }

    private static void changeTheState() {
        takenBack("press of a new key", x -> x.press(40, 9));
        takenBack("press of a key whose voice is kept", x -> x.press(2, 9));
        takenBack("letGo with a voice", x -> x.letGo(0));
        takenBack("letGo without one", x -> x.letGo(7));
        takenBack("setPedal", x -> x.setPedal(false));
        takenBack("setRising, rise", x -> x.setRising(1, 90));
        takenBack("setRising, fall", x -> x.setRising(150, 1));
        takenBack("setStaying, share", x -> x.setStaying(10, 40));
        takenBack("setStaying, dying", x -> x.setStaying(70, 1));
        takenBack("setRule", x -> x.setRule(0));
        takenBack("setComingBack", UndoEdges::soonFree, x -> x.setComingBack(false));
        takenBack("pass", x -> x.pass(99));
        takenBack("pass, in which notes end", UndoEdges::soonFree, x -> x.pass(99));
    }

    private static void notTheText() {
        StolenVoices x = new StolenVoices();
        Check.type(x, "Vd");
        x.pass(1);
        x.append('u');
        x.save(0);
        x.pass(1);
        x.save(1);
        x.undo();
        Check.same("one tick", 1, x.ticks());
        x.undo();
        Check.same("no tick", 0, x.ticks());
        Check.same("the text stays", -1, x.errorPosition());
        Check.same("slot 1 stays", 0, x.restore(1));
        Check.same("its ticks", 2, x.ticks());
        Check.same("slot 0 stays", 0, x.restore(0));
        Check.same("its ticks", 1, x.ticks());
        Check.same("the text's length", 3, x.clearText());
    }

    private static void eachIsAnAction() {
        StolenVoices x = new StolenVoices();
        Check.Call[] calls = {() -> x.press(0, 50), () -> x.letGo(0), () -> x.setPedal(true), () -> x.setRising(1, 1),
            () -> x.setStaying(1, 1), () -> x.setRule(1), () -> x.setComingBack(true), () -> x.pass(1)};
        for (Check.Call call : calls) {
            call.go();
        }
        Check.same("refused", "IllegalStateException", Check.answer(() -> x.letGo(0)));
        Check.same("refused", "IllegalArgumentException", Check.answer(() -> x.pass(0)));
        Check.same("refused", "IndexOutOfBoundsException", Check.answer(() -> x.press(60, 1)));
        for (int left = 7; left >= 0; left--) {
            Check.same("one by one", left, x.undo());
        }
        Check.same("no more", "IllegalStateException", Check.answer(x::undo));
        x.append('V');
        x.errorPosition();
        x.clearText();
        x.save(0);
        x.loudestIn(9);
        x.simulate(1, 60);
        x.quietIn();
        x.freeByRunning(0);
        x.voiceFor(0);
        Check.same("nor are others actions", "IllegalStateException", Check.answer(x::undo));
    }

    private static void nothingDifferent() {
        StolenVoices x = new StolenVoices();
        Check.Call[] calls = {() -> x.setPedal(false), () -> x.setRising(200, 100), () -> x.setStaying(60, 50),
            () -> x.setRule(0), () -> x.setComingBack(false)};
        for (Check.Call call : calls) {
            call.go();
            Check.same("one is remembered", 0, x.undo());
        }
        for (int n = 0; n < 3; n++) {
            x.setRule(0);
        }
        Check.same("three are remembered", 2, x.undo());
    }

    private static void undoIsNone() {
        StolenVoices x = passed(2);
        Check.same("the first", 1, x.undo());
        Check.same("the second, not an undo of the undo", 0, x.undo());
        Check.same("no tick", 0, x.ticks());
        Check.same("none is left", "IllegalStateException", Check.answer(x::undo));
    }

    private static void before() {
        StolenVoices x = passed(14);
        for (int n = 13; n >= 0; n--) {
            x.undo();
            Check.same("as before it", n, x.ticks());
        }
    }

    private static void atMost14() {
        Check.same("one", 0, passed(1).undo());
        Check.same("thirteen", 12, passed(13).undo());
        Check.same("fourteen", 13, passed(14).undo());
        Check.same("fifteen", 13, passed(15).undo());
        Check.same("many", 13, passed(400).undo());
    }

    private static void oldestForgotten() {
        for (int n : new int[] {14, 15, 16, 27, 28, 29, 43}) {
            StolenVoices x = passed(n);
            for (int i = 1; i <= 14; i++) {
                Check.same("undo " + i + " of " + n, 14 - i, x.undo());
                Check.same("ticks behind undo " + i + " of " + n, n - i, x.ticks());
            }
            Check.same("the rest is forgotten", "IllegalStateException", Check.answer(x::undo));
            Check.same("and it stays there", n - 14, x.ticks());
        }
        StolenVoices x = passed(20);
        for (int n = 0; n < 10; n++) {
            x.undo();
        }
        for (int n = 0; n < 12; n++) {
            x.pass(2);
        }
        Check.same("4 and 12 are more than 14", 13, x.undo());
        Check.same("the last of them", 32, x.ticks());
        for (int n = 0; n < 13; n++) {
            x.undo();
        }
        Check.same("the two oldest are forgotten", 8, x.ticks());
        Check.same("no more", "IllegalStateException", Check.answer(x::undo));
    }

    private static void loadAndRestore() {
        StolenVoices x = new StolenVoices();
        Check.type(x, "Vt05");
        x.load();
        Check.same("load", "IllegalStateException", Check.answer(x::undo));
        x.save(0);
        x.pass(1);
        x.restore(0);
        Check.same("restore", "IllegalStateException", Check.answer(x::undo));
        x.pass(1);
        Check.same("an action behind them", 0, x.undo());
        Check.same("taken back to what was restored", 5, x.ticks());
    }

    private static void takesBack() {
        StolenVoices x = Check.pressed(3, 50);
        x.undo();
        Check.same("the last", "[0, 1, -1, -1, -1, -1]", Check.keys(x));
        x.press(9, 5);
        x.undo();
        Check.same("the one behind an undo", "[0, 1, -1, -1, -1, -1]", Check.keys(x));
        x.undo();
        Check.same("then the one before", "[0, -1, -1, -1, -1, -1]", Check.keys(x));
        Check.same("refused", "IllegalStateException", Check.answer(() -> x.press(0, 5)));
        x.undo();
        Check.same("a refused one is not taken back", "[-1, -1, -1, -1, -1, -1]", Check.keys(x));
        StolenVoices y = Check.pressed(6, 50);
        y.letGo(0);
        y.press(0, 50);
        Check.same("1 is the oldest", 1, y.oldest());
        y.undo();
        y.undo();
        Check.same("ages, too", 0, y.oldest());
    }

    private static void stillRemembered() {
        StolenVoices x = passed(20);
        for (int left = 13; left >= 0; left--) {
            Check.same("still", left, x.undo());
        }
        x.pass(1);
        x.pass(1);
        Check.same("two again", 1, x.undo());
    }

    private static void noneRemembered() {
        Twins.noState(StolenVoices::new, StolenVoices::undo);
        Twins.noState(() -> {
            StolenVoices x = Twins.full();
            for (int n = 0; n < 14; n++) {
                x.undo();
            }
            return x;
        }, StolenVoices::undo);
        Twins.noState(() -> {
            StolenVoices x = Twins.full();
            x.load();
            return x;
        }, StolenVoices::undo);
        Twins.noState(() -> {
            StolenVoices x = Twins.full();
            x.restore(1);
            return x;
        }, StolenVoices::undo);
    }
}
