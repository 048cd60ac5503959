import java.util.ArrayList;
import java.util.List;
import java.util.function.Consumer;
import java.util.function.Function;
import java.util.function.Supplier;

/** Two objects made in the same way: a call on one of them that changes nothing leaves both alike. */
final class Twins {
    static final List<Supplier<StolenVoices>> MAKERS = List.of(StolenVoices::new, Twins::some, Twins::full);

    private static final List<Function<StolenVoices, String>> QUESTIONS =
        List.of(Check::print, Twins::past, Twins::slots, Twins::settings, Twins::text);

    private Twins() {
    }

    /** The call throws the exception, and behind it every question answers as if it had not been made. */
    static void refused(String exception, Supplier<StolenVoices> maker, Function<StolenVoices, Object> call) {
        changesNothing(maker, x -> Check.same("the call", exception, Check.answer(() -> call.apply(x))));
    }

    static void noIndex(Supplier<StolenVoices> maker, Function<StolenVoices, Object> call) {
        refused("IndexOutOfBoundsException", maker, call);
    }

    static void noArgument(Supplier<StolenVoices> maker, Function<StolenVoices, Object> call) {
        refused("IllegalArgumentException", maker, call);
    }

    static void noState(Supplier<StolenVoices> maker, Function<StolenVoices, Object> call) {
        refused("IllegalStateException", maker, call);
    }

    /** New objects for each kind of question, as one object is used for at most 512 calls. */
    static void changesNothing(Supplier<StolenVoices> maker, Consumer<StolenVoices> call) {
        for (Function<StolenVoices, String> questions : QUESTIONS) {
            StolenVoices x = maker.get();
            call.accept(x);
            Check.same("what is told behind it", questions.apply(maker.get()), questions.apply(x));
        }
    }

    /** All remembered states, the last one first. */
    static String past(StolenVoices x) {
        List<Object> all = new ArrayList<>();
        for (int n = 0; n < 16; n++) {
            all.add(Check.answer(x::undo));
            all.add(Check.trace(x));
        }
        return all.toString();
    }

    static String slots(StolenVoices x) {
        List<Object> all = new ArrayList<>();
        for (int slot = 0; slot < 2; slot++) {
            int s = slot;
            all.add(Check.answer(() -> x.restore(s)));
            all.add(Check.trace(x));
        }
        return all.toString();
    }

    static String settings(StolenVoices x) {
        return List.of(x.setRising(1, 1), x.setStaying(1, 1), x.setRule(0), x.setPedal(false),
            x.setComingBack(true), x.pass(9), Check.trace(x)).toString();
    }

    static String text(StolenVoices x) {
        return List.of(Check.answer(x::load), Check.trace(x), x.clearText()).toString();
    }

    /** Voices in every phase, two of them free; a kept one, and a note that has ended; slot 1 is used. */
    static StolenVoices some() {
        StolenVoices x = new StolenVoices();
        Check.type(x, "Vp07050t02");
        x.press(59, 1);
        x.letGo(59);
        x.pass(1);
        x.setStaying(70, 40);
        x.setRising(150, 90);
        x.press(0, 100);
        x.press(1, 50);
        x.press(2, 20);
        x.press(3, 1);
        x.pass(2);
        x.letGo(1);
        x.pass(1);
        x.save(1);
        x.setPedal(true);
        x.letGo(2);
        x.setComingBack(true);
        return x;
    }

    /** As some(), but no voice is free, a note has been stolen, another one refused, and key 7 waits. */
    static StolenVoices full() {
        StolenVoices x = some();
        x.press(4, 30);
        x.press(5, 60);
        x.setRule(3);
        x.press(6, 70);
        x.press(7, 80);
        return x;
    }
}
