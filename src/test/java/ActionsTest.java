/** Promises 26 to 34: the actions. */
public final class ActionsTest {
    public static void main(String[] args) {
        pressRefuses();
        press();
        ruleLowest();
        ruleOldest();
        ruleDyingFirst();
        ruleDyingOnly();
        letGo();
        setPedal();
        settings();
        comingBack();
        comingBackInTurn();
        comingBackIsABeginning();
        pass();
        undo();
        undoOfEach();
        Check.end();
    }

    private static void pressRefuses() {
        StolenVoices x = Check.pressed(1, 50);
        Check.noIndex("press(60, 0)", x, () -> x.press(60, 0));
        Check.noIndex("press(-1, 50)", x, () -> x.press(-1, 50));
        Check.noArgument("press(0, 0)", x, () -> x.press(0, 0));
        Check.noArgument("press(0, 101)", x, () -> x.press(0, 101));
        Check.noArgument("press(1, 0)", x, () -> x.press(1, 0));
        Check.noArgument("press(1, -5)", x, () -> x.press(1, -5));
        Check.noState("press(0, 1)", x, () -> x.press(0, 1));
        Check.same("only one state is remembered", 0, x.undo());
        Check.same("press(59, 100)", 0, x.press(59, 100));
        Check.same("press(0, 1)", 1, x.press(0, 1));
    }

    private static void press() {
        StolenVoices x = new StolenVoices();
        for (int v = 0; v < 6; v++) {
            Check.same("the lowest free voice", v, x.press(20 - v, 10));
        }
        x.pass(1);
        x.letGo(18);
        x.letGo(16);
        x.pass(1);
        Check.same("18 dies", 4, x.phaseOf(2));
        Check.same("18 begins anew", 2, x.press(18, 90));
        Check.same("its level stays", 50, x.levelOf(2));
        Check.same("it rises", 1, x.phaseOf(2));
        x.pass(1);
        Check.same("it rises from there", 250, x.levelOf(2));
        x.pass(9);
        Check.same("the new strength", 540, x.levelOf(2));
        Check.same("4 is free", 4, x.press(59, 10));
        Check.same("none is stolen", 0, x.stolen());
    }

    private static void ruleLowest() {
        StolenVoices x = Check.pressed(6, 100);
        Check.same("all at 0: the oldest", 0, x.press(50, 30));
        Check.same("then the next", 1, x.press(51, 100));
        x.pass(3);
        // 50 has its peak, 300, behind the second tick, and 200 now, the others 600.
        Check.same("levels", "[200, 600, 600, 600, 600, 600]", Check.levels(x));
        Check.same("the lowest", 0, x.press(52, 100));
        x.pass(3);
        Check.same("levels", "[600, 900, 900, 900, 900, 900]", Check.levels(x));
        x.pass(2);
        x.pass(4);
        Check.same("levels", "[600, 600, 600, 600, 600, 600]", Check.levels(x).replace("700", "600"));
        x.pass(1);
        Check.same("levels", "[600, 600, 600, 600, 600, 600]", Check.levels(x));
        Check.same("of equals the oldest", 2, x.press(53, 1));
        x.pass(9);
        Check.same("a low one that stays", 2, x.press(54, 100));
        x.letGo(3);
        x.pass(20);
        Check.same("a free one first", 3, x.press(55, 100));
    }

    private static void ruleOldest() {
        StolenVoices x = Check.pressed(6, 100);
        x.setRule(1);
        x.pass(5);
        x.letGo(3);
        for (int n = 0; n < 3; n++) {
            Check.same("the oldest", n, x.press(30 + n, 10));
        }
        Check.same("the fourth, which dies", 3, x.press(33, 10));
        x.letGo(4);
        x.press(4, 10);
        Check.same("4 began anew", 5, x.press(34, 10));
        Check.same("0 is the oldest now", 0, x.press(35, 10));
        Check.same("stolen", 6, x.stolen());
    }

    private static void ruleDyingFirst() {
        StolenVoices x = Check.pressed(6, 100);
        x.setRule(2);
        x.pass(5);
        Check.same("none dies: the oldest of all", 0, x.press(30, 10));
        x.letGo(4);
        x.letGo(2);
        Check.same("the oldest that dies", 2, x.press(31, 10));
        Check.same("the other one", 4, x.press(32, 10));
        Check.same("none dies", 1, x.press(33, 10));
        x.setPedal(true);
        x.letGo(5);
        Check.same("a kept one does not die", 3, x.press(34, 10));
    }

    private static void ruleDyingOnly() {
        StolenVoices x = Check.pressed(6, 100);
        x.setRule(3);
        x.pass(5);
        Check.same("none dies", -1, x.press(30, 10));
        Check.same("it is down", true, x.isDown(30));
        Check.same("it waits", 30, x.nextBack());
        Check.same("refused", 1, x.refused());
        Check.same("none is stolen", 0, x.stolen());
        x.letGo(5);
        x.letGo(3);
        Check.same("the oldest that dies", 3, x.press(31, 10));
        Check.same("it begins at 0", 0, x.levelOf(3));
        Check.same("stolen", 1, x.stolen());
        Check.same("its own voice", 5, x.press(5, 10));
        Check.same("none dies", -1, x.press(32, 10));
        Check.same("refused", 2, x.refused());
        x.undo();
        Check.same("refused, taken back", 1, x.refused());
    }

    private static void letGo() {
        StolenVoices x = Check.pressed(7, 50);
        Check.noIndex("letGo(-1)", x, () -> x.letGo(-1));
        Check.noIndex("letGo(60)", x, () -> x.letGo(60));
        Check.noState("letGo(7)", x, () -> x.letGo(7));
        Check.same("its voice", 2, x.letGo(2));
        Check.noState("letGo(2)", x, () -> x.letGo(2));
        Check.same("it dies", 4, x.phaseOf(2));
        Check.same("0 was stolen", -1, x.letGo(0));
        Check.same("the voice of 6", 0, x.letGo(6));
        Check.same("none sounds less", 6, x.sounding());
        Check.same("keys down", 4, x.keysDown());
    }

    private static void setPedal() {
        StolenVoices x = Check.pressed(6, 50);
        Check.same("lift it, though it is up", 0, x.setPedal(false));
        x.pass(3);
        x.letGo(0);
        Check.same("down", 0, x.setPedal(true));
        x.letGo(1);
        x.letGo(2);
        x.letGo(3);
        x.press(3, 9);
        Check.same("down again", 0, x.setPedal(true));
        Check.same("1 and 2 are kept", true, x.isKept(1) && x.isKept(2));
        x.pass(1);
        Check.same("0 dies, 1 and 2 do not", "[4, 2, 2, 2, 2, 2]", Check.phases(x));
        Check.same("lifted", 2, x.setPedal(false));
        Check.same("they die", "[4, 4, 4, 2, 2, 2]", Check.phases(x));
        x.pass(1);
        Check.same("levels", "[400, 350, 350, 54, 300, 300]", Check.levels(x));
        Check.same("lifted again", 0, x.setPedal(false));
    }

    private static void settings() {
        StolenVoices x = new StolenVoices();
        for (int bad : new int[] {0, 1001, -1, Integer.MIN_VALUE}) {
            Check.noArgument("rise", x, () -> x.setRising(bad, 5));
            Check.noArgument("fall", x, () -> x.setRising(5, bad));
            Check.noArgument("dying", x, () -> x.setStaying(5, bad));
        }
        Check.noArgument("share", x, () -> x.setStaying(-1, 5));
        Check.noArgument("share", x, () -> x.setStaying(101, 5));
        Check.noArgument("rule", x, () -> x.setRule(-1));
        Check.noArgument("rule", x, () -> x.setRule(4));
        Check.noState("nothing was done", x, x::undo);
        Check.same("rise", 200, x.setRising(1, 1000));
        Check.same("rise", 1, x.setRising(1000, 1));
        Check.same("rise", 1000, x.setRising(300, 150));
        Check.same("share", 60, x.setStaying(0, 1));
        Check.same("share", 0, x.setStaying(100, 1000));
        Check.same("share", 100, x.setStaying(50, 70));
        Check.same("rule", 0, x.setRule(3));
        Check.same("rule", 3, x.setRule(0));
        Check.same("rule", 0, x.setRule(0));
        x.press(0, 100);
        x.pass(3);
        Check.same("rises", 900, x.levelOf(0));
        x.pass(2);
        Check.same("falls", 850, x.levelOf(0));
        x.pass(9);
        Check.same("stays", 500, x.levelOf(0));
        x.letGo(0);
        x.pass(1);
        Check.same("dies away", 430, x.levelOf(0));
    }

    private static void comingBack() {
        StolenVoices x = Check.pressed(8, 20);
        Check.same("two wait", 2, x.setComingBack(true));
        Check.same("on again", 2, x.setComingBack(true));
        Check.same("not at once", 2, x.keysWaiting());
        x.pass(1);
        Check.same("no voice is free", 2, x.keysWaiting());
        x.letGo(5);
        Check.same("200, 50 a tick", 0, x.pass(3));
        Check.same("still waiting", 2, x.keysWaiting());
        Check.same("5 ended", 1, x.pass(1));
        Check.same("the latest of them came back", 5, x.voiceOf(1));
        Check.same("at 0", 0, x.levelOf(5));
        Check.same("rising", 1, x.phaseOf(5));
        Check.same("one waits", 1, x.setComingBack(false));
        x.letGo(4);
        Check.same("4 ended", 1, x.pass(9));
        Check.same("but 0 came not back", -1, x.voiceOf(0));
        Check.same("a voice is free", 5, x.sounding());
        x.setComingBack(true);
        x.pass(1);
        Check.same("0 came back", 4, x.voiceOf(0));
        x.pass(9);
        Check.same("with its strength", 120, x.levelOf(4));
    }

    private static void comingBackInTurn() {
        StolenVoices x = new StolenVoices();
        x.setRule(1);
        for (int k = 0; k < 12; k++) {
            x.press(k, 1 + k);
        }
        x.setComingBack(true);
        x.letGo(0);
        for (int k = 6; k < 12; k++) {
            x.letGo(k);
        }
        x.pass(2);
        Check.same("in the order of the pressing, the latest first", "[5, 4, 3, 2, 1, -1]", Check.keys(x));
        Check.same("each is younger than the one before", 0, x.oldest());
        x.setPedal(true);
        x.press(20, 50);
        x.press(21, 50);
        Check.same("5 was stolen", 0, x.voiceOf(21));
        Check.same("4 is the oldest", 1, x.oldest());
        Check.same("notes", 19, x.notesByBeginning());
        Check.same("notes", 19, x.notesByEnds());
    }

    private static void comingBackIsABeginning() {
        StolenVoices x = Check.pressed(6, 100);
        x.setRule(1);
        x.press(6, 100);
        x.setComingBack(true);
        x.letGo(6);
        x.letGo(1);
        x.press(1, 100);
        x.pass(1);
        Check.same("0 is back on its old voice", 0, x.voiceOf(0));
        for (int k = 2; k < 6; k++) {
            x.letGo(k);
            x.press(k, 100);
        }
        Check.same("pressed before it came back", 1, x.oldest());
        x.letGo(1);
        x.press(1, 100);
        Check.same("so it is the oldest now", 0, x.oldest());
    }

    private static void pass() {
        StolenVoices x = Check.pressed(6, 10);
        Check.noArgument("pass(0)", x, () -> x.pass(0));
        Check.noArgument("pass(100)", x, () -> x.pass(100));
        Check.noArgument("pass(-1)", x, () -> x.pass(-1));
        x.pass(1);
        x.letGo(0);
        Check.same("100, 50 a tick", 0, x.pass(1));
        x.letGo(1);
        Check.same("0 ends", 1, x.pass(1));
        x.letGo(2);
        x.letGo(3);
        Check.same("1, 2, 3 end", 3, x.pass(99));
        Check.same("two sound", 2, x.sounding());
        Check.same("none ends", 0, x.pass(99));
        Check.same("ticks", 201, x.ticks());
    }

    private static void undo() {
        StolenVoices x = new StolenVoices();
        Check.noState("undo", x, x::undo);
        String[] before = new String[20];
        for (int n = 0; n < 20; n++) {
            before[n] = Check.trace(x);
            x.press(n, 50 + n);
        }
        for (int n = 19; n >= 6; n--) {
            Check.same("remembered", n - 6, x.undo());
            Check.same("taken back", before[n], Check.trace(x));
        }
        Check.noState("the rest is forgotten", x, x::undo);
        x.press(50, 5);
        Check.same("one again", 0, x.undo());
        Check.same("taken back", before[6], Check.trace(x));
        StolenVoices y = new StolenVoices();
        for (int n = 0; n < 13; n++) {
            y.setRule(0);
        }
        y.setPedal(false);
        Check.same("what changes nothing is remembered", 13, y.undo());
        y.pass(1);
        y.pass(1);
        Check.same("at most 14", 13, y.undo());
    }

    private static void undoOfEach() {
        StolenVoices x = Check.pressed(8, 20);
        x.letGo(5);
        x.setPedal(true);
        x.letGo(4);
        x.pass(2);
        String before = Check.trace(x);
        Check.Call[] actions = {() -> x.press(30, 4), () -> x.letGo(7), () -> x.setPedal(false),
            () -> x.setRising(3, 4), () -> x.setStaying(3, 4), () -> x.setRule(3),
            () -> x.setComingBack(true), () -> x.pass(9)};
        for (int i = 0; i < actions.length; i++) {
            actions[i].go();
            Check.same("action " + i + " changes something", false, before.equals(Check.trace(x)));
            Check.same("action " + i + " is taken back", 12, x.undo());
            Check.same("action " + i, before, Check.trace(x));
        }
        x.clearText();
        Check.type(x, "Vd");
        x.save(0);
        x.undo();
        Check.same("the text is none of the state", 2, x.clearText());
        Check.same("nor are the slots", 5, x.restore(0));
        Check.same("as saved", before, Check.trace(x));
    }
}
