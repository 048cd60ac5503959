/** Promises 14 to 25: what keys, the pedal, notes and settings tell. */
public final class KeysTest {
    public static void main(String[] args) {
        noSuchKey();
        keys();
        waiting();
        pedal();
        notes();
        ticksAndRule();
        Check.end();
    }

    private static void noSuchKey() {
        StolenVoices x = Check.pressed(2, 50);
        for (int bad : new int[] {-1, 60, Integer.MIN_VALUE, Integer.MAX_VALUE}) {
            Check.noIndex("isDown", x, () -> x.isDown(bad));
            Check.noIndex("voiceOf", x, () -> x.voiceOf(bad));
        }
    }

    private static void keys() {
        StolenVoices x = new StolenVoices();
        Check.same("up", false, x.isDown(59));
        Check.same("no voice", -1, x.voiceOf(59));
        x.press(59, 1);
        x.press(0, 1);
        Check.same("down", true, x.isDown(59));
        Check.same("down", true, x.isDown(0));
        Check.same("voice", 0, x.voiceOf(59));
        Check.same("voice", 1, x.voiceOf(0));
        Check.same("keys down", 2, x.keysDown());
        x.letGo(59);
        Check.same("up", false, x.isDown(59));
        Check.same("dying away it still has the voice", 0, x.voiceOf(59));
        Check.same("keys down", 1, x.keysDown());
        x.pass(1);
        Check.same("no voice", -1, x.voiceOf(59));
        StolenVoices y = Check.pressed(60, 10 - 5);
        Check.same("all down", 60, y.keysDown());
        Check.same("all but six wait", 54, y.keysWaiting());
        StolenVoices z = Check.pressed(7, 1);
        Check.same("the least strength waits, too", 0, z.nextBack());
    }

    private static void waiting() {
        StolenVoices x = Check.pressed(6, 50);
        Check.same("none waits", 0, x.keysWaiting());
        Check.same("none comes back", -1, x.nextBack());
        x.setRule(1);
        x.press(50, 20);
        x.press(30, 20);
        x.press(40, 20);
        Check.same("0, 1, 2 wait", 3, x.keysWaiting());
        Check.same("the latest of them", 2, x.nextBack());
        x.letGo(2);
        Check.same("1 then", 1, x.nextBack());
        Check.same("two wait", 2, x.keysWaiting());
        x.setRule(3);
        x.press(2, 9);
        Check.same("refused, and waits", 2, x.nextBack());
        x.press(21, 9);
        Check.same("pressed latest", 21, x.nextBack());
        x.press(3 + 8, 9);
        Check.same("pressed latest, though lower", 11, x.nextBack());
        x.letGo(11);
        x.letGo(21);
        x.letGo(1);
        x.press(1, 9);
        Check.same("pressed again", 1, x.nextBack());
        Check.same("it has no voice", -1, x.voiceOf(1));
        Check.same("0, 1 and 2 wait", 3, x.keysWaiting());
    }

    private static void pedal() {
        StolenVoices x = new StolenVoices();
        Check.same("up", false, x.isPedalDown());
        x.setPedal(true);
        Check.same("down", true, x.isPedalDown());
        x.setPedal(true);
        Check.same("down", true, x.isPedalDown());
        x.setPedal(false);
        Check.same("up", false, x.isPedalDown());
    }

    private static void told(StolenVoices x, int notes, int stolen, int refused) {
        Check.same("notes by beginning", notes, x.notesByBeginning());
        Check.same("notes by ends", notes, x.notesByEnds());
        Check.same("stolen", stolen, x.stolen());
        Check.same("refused", refused, x.refused());
    }

    private static void notes() {
        StolenVoices x = new StolenVoices();
        told(x, 0, 0, 0);
        for (int k = 0; k < 6; k++) {
            x.press(k, 10);
        }
        told(x, 6, 0, 0);
        x.press(6, 10);
        told(x, 7, 1, 0);
        x.letGo(6);
        x.press(6, 10);
        told(x, 7, 1, 0);
        x.setRule(3);
        x.press(7, 10);
        told(x, 7, 1, 1);
        x.letGo(6);
        x.press(8, 10);
        told(x, 8, 2, 1);
        x.letGo(8);
        x.pass(99);
        told(x, 8, 2, 1);
        Check.same("five sound", 5, x.sounding());
        x.setComingBack(true);
        x.pass(1);
        told(x, 9, 2, 1);
        Check.same("the refused one came back", 0, x.voiceOf(7));
        x.undo();
        told(x, 8, 2, 1);
    }

    private static void ticksAndRule() {
        StolenVoices x = new StolenVoices();
        Check.same("ticks", 0, x.ticks());
        x.pass(1);
        x.pass(99);
        Check.same("ticks", 100, x.ticks());
        x.loudestIn(200);
        x.simulate(5, 60);
        Check.same("ticks", 100, x.ticks());
        x.undo();
        Check.same("ticks", 1, x.ticks());
        for (int r = 3; r >= 0; r--) {
            x.setRule(r);
            Check.same("rule", r, x.rule());
        }
    }
}
