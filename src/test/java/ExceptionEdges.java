import java.util.List;
import java.util.function.Function;
import java.util.function.Supplier;

/** The term "EXCEPTIONS", and what stands behind it, sentence by sentence. */
final class ExceptionEdges {
    private static final String PART = "EXCEPTIONS";

    private static final List<Function<StolenVoices, Object>> REFUSED = List.of(
        x -> x.append(256), x -> x.phaseOf(6), x -> x.keyOf(6), x -> x.levelOf(6),
        x -> x.isKept(6), x -> x.isDown(60), x -> x.voiceOf(60), x -> x.press(60, 1),
        x -> x.press(30, 101), x -> x.press(0, 100), x -> x.press(7, 1), x -> x.letGo(60),
        x -> x.letGo(30), x -> x.letGo(2), x -> x.setRising(1, 1001), x -> x.setRising(0, 1),
        x -> x.setStaying(1, 1001), x -> x.setStaying(101, 1), x -> x.setRule(4),
        x -> x.pass(100), x -> x.voiceFor(60), x -> x.voiceFor(0), x -> x.howFor(60),
        x -> x.freeByRunning(6), x -> x.freeByReckoning(6), x -> x.loudestIn(201),
        x -> x.simulate(1, 61), x -> x.save(2), x -> x.restore(2), x -> x.restore(0));

    private ExceptionEdges() {
    }

    static void all() {
        Sentence.holds(PART, "IndexOutOfBoundsException means that a voice", ExceptionEdges::noVoice);
        Sentence.holds(PART, "or a key does not exist", ExceptionEdges::noKey);
        Sentence.holds(PART, "or that a save slot is not 0 or 1", ExceptionEdges::noSlot);
        Sentence.holds(PART, "IllegalArgumentException means that another argument is out of its range",
            ExceptionEdges::noArgument);
        Sentence.holds(PART, "IllegalStateException means what the method says", ExceptionEdges::noState);
        Sentence.holds(PART,
            "If several exceptions apply to a call, the one that its description names first is thrown",
            ExceptionEdges::firstNamed);
        Sentence.holds(PART, "A call that throws an exception changes nothing", ExceptionEdges::changesNothing);
        Sentence.holds(PART, "NONE = -1", () -> Check.same("NONE", -1, StolenVoices.NONE));
        Sentence.holds(PART, "There is no such result", ExceptionEdges::noSuchResult);
        Sentence.holds(PART, "these and all following methods up to the save slots change nothing",
            ExceptionEdges::questions);
    }

    private static void each(String exception, Check.Call... calls) {
        for (int i = 0; i < calls.length; i++) {
            Check.same("call " + i, exception, Check.answer(calls[i]));
        }
    }

    private static void noVoice() {
        StolenVoices x = Twins.full();
        for (int v : new int[] {-1, 6, 60, Integer.MIN_VALUE, Integer.MAX_VALUE}) {
            each("IndexOutOfBoundsException", () -> x.phaseOf(v), () -> x.keyOf(v), () -> x.levelOf(v),
                () -> x.isKept(v), () -> x.freeByRunning(v), () -> x.freeByReckoning(v));
        }
        for (int v = 0; v < 6; v++) {
            int voice = v;
            Check.same("there is voice " + v, voice == 1 ? 6 : voice, Check.answer(() -> x.keyOf(voice)));
        }
    }

    private static void noKey() {
        StolenVoices x = Twins.full();
        for (int k : new int[] {-1, 60, 120, Integer.MIN_VALUE, Integer.MAX_VALUE}) {
            each("IndexOutOfBoundsException", () -> x.isDown(k), () -> x.voiceOf(k), () -> x.press(k, 1),
                () -> x.letGo(k), () -> x.voiceFor(k), () -> x.howFor(k));
        }
        for (int k = 0; k < 60; k++) {
            int key = k;
            boolean isDown = k == 0 || k >= 3 && k <= 7;
            Check.same("there is key " + k, isDown, Check.answer(() -> x.isDown(key)));
        }
    }

    private static void noSlot() {
        StolenVoices x = Twins.full();
        for (int s : new int[] {-1, 2, 3, Integer.MIN_VALUE, Integer.MAX_VALUE}) {
            each("IndexOutOfBoundsException", () -> x.save(s), () -> x.restore(s));
        }
        Check.same("slot 0 and slot 1", 12, x.save(0) + x.save(1));
    }

    private static void noArgument() {
        StolenVoices x = Twins.full();
        each("IllegalArgumentException", () -> x.append(-1), () -> x.append(256), () -> x.press(30, 0),
            () -> x.press(30, 101), () -> x.setRising(0, 1), () -> x.setRising(1, 0), () -> x.setRising(1001, 1),
            () -> x.setRising(1, 1001), () -> x.setStaying(-1, 1), () -> x.setStaying(101, 1),
            () -> x.setStaying(0, 0), () -> x.setStaying(0, 1001), () -> x.setRule(-1), () -> x.setRule(4),
            () -> x.pass(0), () -> x.pass(100), () -> x.loudestIn(0), () -> x.loudestIn(201),
            () -> x.simulate(0, 0), () -> x.simulate(0, 61));
    }

    private static void noState() {
        StolenVoices x = Twins.full();
        x.append('p');
        each("IllegalStateException", x::load, () -> x.press(0, 1), () -> x.press(7, 1), () -> x.letGo(1),
            () -> x.letGo(2), () -> x.voiceFor(0), () -> x.voiceFor(7), () -> x.restore(0));
        StolenVoices y = new StolenVoices();
        Check.type(y, "V".repeat(120));
        each("IllegalStateException", y::undo, () -> y.append('d'), y::load, () -> y.restore(1));
    }

    private static void firstNamed() {
        StolenVoices x = Twins.full();
        for (int bad : new int[] {0, 101}) {
            Check.same("no key before the strength", "IndexOutOfBoundsException", Check.answer(() -> x.press(60, bad)));
            Check.same("no key before the strength", "IndexOutOfBoundsException", Check.answer(() -> x.press(-1, bad)));
            Check.same("the strength before the key that is down", "IllegalArgumentException",
                Check.answer(() -> x.press(0, bad)));
            Check.same("the strength before the key that waits", "IllegalArgumentException",
                Check.answer(() -> x.press(7, bad)));
        }
        Check.same("no slot before nothing saved", "IndexOutOfBoundsException", Check.answer(() -> x.restore(2)));
        StolenVoices y = new StolenVoices();
        Check.same("no slot before nothing saved", "IndexOutOfBoundsException", Check.answer(() -> y.restore(-1)));
        Check.same("no key before the key that is up", "IndexOutOfBoundsException", Check.answer(() -> y.letGo(60)));
        Check.same("no key before the key that is up", "IndexOutOfBoundsException", Check.answer(() -> y.letGo(-1)));
        Check.type(y, "V" + "d".repeat(119));
        Check.same("no character before the full text", "IllegalArgumentException", Check.answer(() -> y.append(256)));
        Check.same("no character before the full text", "IllegalArgumentException", Check.answer(() -> y.append(-1)));
    }

    /** All of them in a row, and each for itself. */
    private static void changesNothing() {
        Supplier<StolenVoices> maker = Twins::full;
        Twins.changesNothing(maker, x -> {
            int thrown = 0;
            for (Function<StolenVoices, Object> call : REFUSED) {
                thrown += Check.answer(() -> call.apply(x)).toString().endsWith("Exception") ? 1 : 0;
            }
            Check.same("calls that throw", REFUSED.size(), thrown);
        });
        for (Function<StolenVoices, Object> call : REFUSED) {
            Twins.changesNothing(maker, x -> Check.answer(() -> call.apply(x)));
        }
    }

    private static void noSuchResult() {
        StolenVoices x = new StolenVoices();
        Check.same("no key, no voice, none that waits, none that would be stolen", "-1 -1 -1 -1 -1", x.keyOf(0) + " "
            + x.oldest() + " " + x.voiceOf(0) + " " + x.nextBack() + " " + x.victim());
    }

    private static void questions() {
        for (Supplier<StolenVoices> maker : Twins.MAKERS) {
            Twins.changesNothing(maker, x -> Check.answer(() -> x.voiceFor(2)));
            Twins.changesNothing(maker, x -> Check.answer(() -> x.voiceFor(40)));
            Twins.changesNothing(maker, x -> x.howFor(2));
            Twins.changesNothing(maker, x -> x.howFor(40));
            Twins.changesNothing(maker, StolenVoices::victim);
            for (int v = 0; v < 6; v++) {
                int voice = v;
                Twins.changesNothing(maker, x -> x.freeByRunning(voice));
                Twins.changesNothing(maker, x -> x.freeByReckoning(voice));
            }
            Twins.changesNothing(maker, x -> x.loudestIn(1));
            Twins.changesNothing(maker, x -> x.loudestIn(200));
            Twins.changesNothing(maker, StolenVoices::quietIn);
            Twins.changesNothing(maker, x -> x.simulate(99, 60));
        }
        Check.same("three states", 3, Twins.MAKERS.size());
    }
}
