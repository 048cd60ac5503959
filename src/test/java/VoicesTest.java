/** Promises 6 to 13: what the voices tell. */
public final class VoicesTest {
    public static void main(String[] args) {
        noSuchVoice();
        phases();
        jumps();
        kept();
        oldest();
        loudness();
        Check.end();
    }

    private static void noSuchVoice() {
        StolenVoices x = Check.pressed(2, 50);
        for (int bad : new int[] {-1, 6, Integer.MIN_VALUE, Integer.MAX_VALUE}) {
            Check.noIndex("phaseOf", x, () -> x.phaseOf(bad));
            Check.noIndex("keyOf", x, () -> x.keyOf(bad));
            Check.noIndex("levelOf", x, () -> x.levelOf(bad));
            Check.noIndex("isKept", x, () -> x.isKept(bad));
        }
        Check.same("the last voice", 0, x.phaseOf(5));
        Check.same("its key", -1, x.keyOf(5));
        Check.same("its level", 0, x.levelOf(5));
        Check.same("not kept", false, x.isKept(5));
    }

    /** Phase and level behind each tick. */
    private static void life(StolenVoices x, int... due) {
        for (int i = 0; i < due.length; i += 2) {
            x.pass(1);
            Check.same("phase behind tick " + (i / 2 + 1), due[i], x.phaseOf(0));
            Check.same("level behind tick " + (i / 2 + 1), due[i + 1], x.levelOf(0));
        }
    }

    private static void phases() {
        StolenVoices x = new StolenVoices();
        x.press(7, 50);
        Check.same("rises at once", 1, x.phaseOf(0));
        Check.same("from 0", 0, x.levelOf(0));
        Check.same("key", 7, x.keyOf(0));
        life(x, 1, 200, 1, 400, 2, 500, 2, 400, 3, 300, 3, 300, 3, 300);
        x.letGo(7);
        Check.same("dies away", 4, x.phaseOf(0));
        life(x, 4, 250, 4, 200, 4, 150, 4, 100, 4, 50);
        Check.same("still the key", 7, x.keyOf(0));
        life(x, 0, 0, 0, 0);
        Check.same("no key", -1, x.keyOf(0));
        x.setStaying(33, 1000);
        x.setRising(1000, 1000);
        x.press(7, 1);
        life(x, 2, 10, 3, 3, 3, 3);
        x.letGo(7);
        life(x, 0, 0);
        // A share of 100 lets nothing fall, but the phase lasts a tick.
        x.setStaying(100, 50);
        x.press(7, 100);
        life(x, 2, 1000, 3, 1000, 3, 1000);
        x.letGo(7);
        x.setStaying(100, 999);
        life(x, 4, 1, 0, 0);
    }

    private static void jumps() {
        StolenVoices x = new StolenVoices();
        x.press(0, 100);
        x.pass(5);
        x.letGo(0);
        x.press(0, 10);
        Check.same("keeps its level", 1000, x.levelOf(0));
        life(x, 2, 100, 3, 60);
        x.setStaying(0, 50);
        life(x, 3, 60);
        StolenVoices y = new StolenVoices();
        y.setStaying(0, 50);
        y.press(0, 100);
        y.pass(10);
        Check.same("falls", 500, y.levelOf(0));
        y.setStaying(90, 50);
        life(y, 3, 900, 3, 900);
        StolenVoices z = new StolenVoices();
        z.press(0, 20);
        z.pass(1);
        Check.same("the peak at once", 2, z.phaseOf(0));
        Check.same("200", 200, z.levelOf(0));
        z.setStaying(50, 50);
        life(z, 3, 100);
    }

    private static void kept() {
        StolenVoices x = Check.pressed(3, 50);
        x.setPedal(true);
        Check.same("not kept, its key is down", false, x.isKept(0));
        x.letGo(0);
        Check.same("kept", true, x.isKept(0));
        Check.same("it goes on", 1, x.phaseOf(0));
        x.pass(9);
        Check.same("kept on", true, x.isKept(0));
        Check.same("it stays", 3, x.phaseOf(0));
        x.press(0, 60);
        Check.same("anew", false, x.isKept(0));
        x.letGo(0);
        x.setPedal(false);
        Check.same("dies away", false, x.isKept(0));
        x.letGo(1);
        Check.same("never kept", false, x.isKept(1));
        x.setPedal(true);
        Check.same("the pedal keeps none that dies", false, x.isKept(1));
        Check.same("it dies on", 4, x.phaseOf(1));
    }

    private static void oldest() {
        StolenVoices x = new StolenVoices();
        Check.same("none", -1, x.oldest());
        Check.same("none sounds", 0, x.sounding());
        for (int k = 0; k < 6; k++) {
            x.press(10 + k, 50);
            Check.same("the first", 0, x.oldest());
            Check.same("sounding", k + 1, x.sounding());
        }
        x.letGo(10);
        x.press(10, 50);
        Check.same("0 began anew", 1, x.oldest());
        x.letGo(11);
        Check.same("it dies, and is the oldest", 1, x.oldest());
        x.pass(99);
        Check.same("it is free", 2, x.oldest());
        Check.same("sounding", 5, x.sounding());
        x.press(20, 1);
        Check.same("1 is young", 2, x.oldest());
        x.setPedal(true);
        for (int k = 12; k < 16; k++) {
            x.letGo(k);
        }
        x.press(12, 5);
        Check.same("a kept one anew", 3, x.oldest());
    }

    private static void loudness() {
        StolenVoices x = new StolenVoices();
        x.press(0, 100);
        x.pass(6);
        x.press(1, 50);
        x.pass(1);
        x.letGo(0);
        x.press(2, 10);
        x.pass(2);
        x.press(3, 1);
        // 0: 800 - 2 * 50 dies, 1: 500 (600 at most 500), 2: 100, then 60, 3: 0.
        Check.same("levels", "[700, 500, 60, 0, 0, 0]", Check.levels(x));
        Check.same("phases", "[4, 2, 3, 1, 0, 0]", Check.phases(x));
        Check.same("by voices", 1260, x.loudnessByVoices());
        Check.same("by phases", 1260, x.loudnessByPhases());
        x.pass(1);
        Check.same("levels", "[650, 400, 60, 10, 0, 0]", Check.levels(x));
        Check.same("by voices", 1120, x.loudnessByVoices());
        Check.same("by phases", 1120, x.loudnessByPhases());
        StolenVoices y = Check.pressed(6, 100);
        y.pass(5);
        Check.same("as loud as it gets", 6000, y.loudnessByVoices());
        Check.same("as loud as it gets", 6000, y.loudnessByPhases());
    }
}
