/** The promises 43 and 44, sentence by sentence: the save slots. */
final class SlotEdges {
    private static final int[] NO_SLOTS = {-1, 2, Integer.MIN_VALUE, Integer.MAX_VALUE};

    private SlotEdges() {
    }

    static void all() {
        save();
        restore();
        restoreRefuses();
    }

    private static StolenVoices saved(int slot) {
        StolenVoices x = Twins.full();
        x.save(slot);
        return x;
    }

    /** Makes everything other than it was. */
    private static void disturb(StolenVoices x) {
        x.setPedal(false);
        x.setRising(1, 2);
        x.setStaying(3, 4);
        x.setRule(1);
        x.setComingBack(false);
        x.pass(20);
        x.letGo(7);
        x.letGo(0);
        x.press(2, 9);
        x.press(30, 9);
        x.press(31, 9);
        x.press(32, 9);
        x.press(33, 9);
    }

    private static void save() {
        Sentence.holds("Promise 43", "Stores the present state in a save slot", () -> {
            StolenVoices x = saved(0);
            disturb(x);
            x.restore(0);
            Check.same("the present state", Check.print(Twins.full()), Check.print(x));
            StolenVoices y = saved(0);
            disturb(y);
            y.restore(0);
            Check.same("its settings", Twins.settings(Twins.full()), Twins.settings(y));
            StolenVoices z = saved(0);
            z.pass(1);
            z.save(0);
            z.pass(1);
            z.restore(0);
            Check.same("over what was saved before", 5, z.ticks());
            StolenVoices w = saved(0);
            disturb(w);
            w.save(1);
            Check.same("in one slot only", "6 4", w.restore(0) + " " + w.ticks());
        });
        Sentence.holds("Promise 43", "0 or 1", () -> {
            StolenVoices x = new StolenVoices();
            x.save(0);
            x.pass(7);
            x.save(1);
            x.pass(7);
            x.restore(0);
            Check.same("the least", 0, x.ticks());
            x.restore(1);
            Check.same("the greatest", 7, x.ticks());
        });
        Sentence.holds("Promise 43", "Returns the number of voices that are not free", () -> {
            Check.same("all are free", 0, new StolenVoices().save(0));
            Check.same("some", 4, Twins.some().save(0));
            Check.same("none is free", 6, Twins.full().save(1));
            StolenVoices x = Check.pressed(1, 1);
            x.letGo(0);
            Check.same("one dies", 1, x.save(0));
            x.pass(1);
            Check.same("not that which was saved before", 0, x.save(0));
        });
        Sentence.holds("Promise 43", "if there is no such save slot", () -> {
            for (int bad : NO_SLOTS) {
                Twins.noIndex(Twins::full, x -> x.save(bad));
                Twins.noIndex(StolenVoices::new, x -> x.save(bad));
            }
        });
        Sentence.holds("Promise 43", "the present state", () -> {
            StolenVoices x = Twins.full();
            x.save(0);
            Check.same("which it does not change", Check.print(Twins.full()), Check.print(x));
            Check.same("nor what is remembered", Twins.past(Twins.full()), Twins.past(saved(1)));
            Check.same("nor the text", Twins.text(Twins.full()), Twins.text(saved(1)));
        });
    }

    private static void restore() {
        Sentence.holds("Promise 44", "Replaces the state by the one in a save slot", () -> {
            StolenVoices x = Twins.full();
            x.restore(1);
            Check.same("slot 1 of full() has four voices", "[450, 260, 140, 7, 0, 0]", Check.levels(x));
            Check.same("the pedal was up", false, x.isPedalDown());
            Check.same("key 2 was down", true, x.isDown(2));
            Check.same("no note was stolen", 0, x.stolen() + x.refused());
            Check.same("the rule", 0, x.rule());
            Check.same("the text stays", 10, x.clearText());
        });
        Sentence.holds("Promise 44", "and forgets all remembered states", () -> {
            StolenVoices x = saved(0);
            x.restore(0);
            Check.same("none", "IllegalStateException", Check.answer(x::undo));
            x.pass(1);
            Check.same("one", 0, x.undo());
            Check.same("as restored", 4, x.ticks());
            Check.same("none again", "IllegalStateException", Check.answer(x::undo));
        });
        Sentence.holds("Promise 44", "The save slot keeps it", () -> {
            StolenVoices x = saved(0);
            x.restore(0);
            disturb(x);
            Check.same("once more", 6, x.restore(0));
            Check.same("as it was", Check.print(Twins.full()), Check.print(x));
            x.restore(1);
            Check.same("beside the other one", "6 4", x.restore(0) + " " + x.restore(1));
        });
        Sentence.holds("Promise 44", "0 or 1", () -> {
            StolenVoices x = saved(0);
            Check.same("the least", 6, x.restore(0));
            Check.same("the greatest", 4, x.restore(1));
            Check.same("the least again", 6, x.restore(0));
        });
        Sentence.holds("Promise 44", "Returns the number of voices that are not free then", () -> {
            StolenVoices x = new StolenVoices();
            x.save(0);
            for (int k = 0; k < 6; k++) {
                x.press(k, 1);
            }
            x.save(1);
            Check.same("all are free", 0, x.restore(0));
            Check.same("none is free", 6, x.restore(1));
        });
    }

    private static void restoreRefuses() {
        Sentence.holds("Promise 44", "if there is no such save slot", () -> {
            for (int bad : NO_SLOTS) {
                Twins.noIndex(Twins::full, x -> x.restore(bad));
                Twins.noIndex(() -> saved(0), x -> x.restore(bad));
                Twins.noIndex(StolenVoices::new, x -> x.restore(bad));
            }
        });
        Sentence.holds("Promise 44", "if nothing has been saved in it since the last load", () -> {
            Twins.noState(StolenVoices::new, x -> x.restore(0));
            Twins.noState(StolenVoices::new, x -> x.restore(1));
            Twins.noState(Twins::full, x -> x.restore(0));
            Twins.noState(() -> loaded(saved(0)), x -> x.restore(0));
            Twins.noState(() -> loaded(saved(0)), x -> x.restore(1));
            StolenVoices x = loaded(saved(0));
            x.save(1);
            Check.same("saved since", 1, x.restore(1));
            Check.same("not saved since", "IllegalStateException", Check.answer(() -> x.restore(0)));
            StolenVoices y = saved(0);
            y.append('q');
            Check.same("a load that throws", "IllegalStateException", Check.answer(y::load));
            Check.same("is none", 6, y.restore(0));
        });
    }

    private static StolenVoices loaded(StolenVoices x) {
        x.load();
        return x;
    }
}
