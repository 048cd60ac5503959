/** Promises 43 and 44: the save slots. */
public final class SlotsTest {
    public static void main(String[] args) {
        refuses();
        saveAndRestore();
        twoSlots();
        Check.end();
    }

    private static void refuses() {
        StolenVoices x = Check.pressed(2, 50);
        for (int bad : new int[] {-1, 2, Integer.MIN_VALUE, Integer.MAX_VALUE}) {
            Check.noIndex("save", x, () -> x.save(bad));
            Check.noIndex("restore", x, () -> x.restore(bad));
        }
        Check.noState("restore(0)", x, () -> x.restore(0));
        x.save(0);
        Check.noState("restore(1)", x, () -> x.restore(1));
        Check.same("remembered states are kept", 1, x.undo());
    }

    private static void saveAndRestore() {
        StolenVoices x = Check.pressed(4, 50);
        x.setPedal(true);
        x.letGo(2);
        x.setRising(7, 8);
        x.setStaying(9, 10);
        x.setRule(2);
        x.setComingBack(true);
        x.pass(3);
        Check.same("save", 4, x.save(0));
        String saved = Check.trace(x);
        Check.same("save is no action", 10, x.undo());
        for (int n = 0; n < 3; n++) {
            x.setPedal(false);
            x.setRising(1000, 1000);
            x.setStaying(1, 1);
            x.setRule(1);
            x.setComingBack(false);
            x.press(40 + n, 9);
            x.press(50 + n, 9);
            x.pass(99);
            Check.same("restore", 4, x.restore(0));
            Check.same("as saved", saved, Check.trace(x));
            Check.noState("nothing is remembered", x, x::undo);
            Check.same("rise", 7, x.setRising(7, 8));
            Check.same("share", 9, x.setStaying(9, 10));
            Check.same("restore is no action", 1, x.undo());
        }
        Check.same("save over it", 4, x.save(0));
    }

    private static void twoSlots() {
        StolenVoices x = new StolenVoices();
        Check.same("none sounds", 0, x.save(1));
        x.press(5, 5);
        Check.same("one sounds", 1, x.save(0));
        x.press(6, 5);
        Check.type(x, "Vd");
        Check.same("slot 1", 0, x.restore(1));
        Check.same("slot 0", 1, x.restore(0));
        Check.same("key", 5, x.keyOf(0));
        Check.same("the text is not in it", 2, x.clearText());
        x.letGo(5);
        Check.same("save", 1, x.save(1));
        x.pass(99);
        Check.same("save a quiet one", 0, x.save(0));
        Check.same("it dies", 1, x.restore(1));
        Check.same("it dies", 4, x.phaseOf(0));
    }
}
