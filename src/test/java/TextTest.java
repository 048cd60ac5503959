/** Promises 1 to 5: a new object, and the text. */
public final class TextTest {
    public static void main(String[] args) {
        newObject();
        append();
        clearText();
        errorPosition();
        digits();
        load();
        loadFails();
        loadForgets();
        Check.end();
    }

    private static void newObject() {
        StolenVoices x = new StolenVoices();
        Check.same("phases", "[0, 0, 0, 0, 0, 0]", Check.phases(x));
        Check.same("keys", "[-1, -1, -1, -1, -1, -1]", Check.keys(x));
        Check.same("levels", "[0, 0, 0, 0, 0, 0]", Check.levels(x));
        Check.same("keys down", 0, x.keysDown());
        Check.same("text", 0, x.clearText());
        Check.same("rise", 200, x.setRising(1, 1));
        Check.same("share", 60, x.setStaying(1, 1));
        Check.same("rule", 0, x.rule());
        Check.same("pedal", false, x.isPedalDown());
        Check.noState("slot 0", x, () -> x.restore(0));
        Check.noState("slot 1", x, () -> x.restore(1));
        StolenVoices y = new StolenVoices();
        Check.noState("nothing to undo", y, y::undo);
        // The first fall and dying show only in levels.
        y.press(0, 100);
        y.pass(6);
        Check.same("the first fall is 100", 900, y.levelOf(0));
        y.letGo(0);
        y.pass(1);
        Check.same("the first dying is 50", 850, y.levelOf(0));
    }

    private static void append() {
        StolenVoices x = new StolenVoices();
        Check.noArgument("append(-1)", x, () -> x.append(-1));
        Check.noArgument("append(256)", x, () -> x.append(256));
        Check.same("append(0)", 1, x.append(0));
        Check.same("append(255)", 2, x.append(255));
        for (int n = 3; n <= 120; n++) {
            Check.same("append", n, x.append(65));
        }
        Check.noState("append at 120", x, () -> x.append(65));
        Check.noArgument("append of no character at 120", x, () -> x.append(256));
        Check.same("length", 120, x.clearText());
        Check.same("append again", 1, x.append(86));
        Check.same("piece", -1, x.errorPosition());
    }

    private static void clearText() {
        StolenVoices x = new StolenVoices();
        Check.same("clearText", 0, x.clearText());
        Check.type(x, "Vd");
        Check.same("clearText", 2, x.clearText());
        Check.same("clearText", 0, x.clearText());
        Check.same("empty", 0, x.errorPosition());
    }

    private static void error(String text, int want) {
        StolenVoices x = new StolenVoices();
        Check.type(x, text);
        Check.same("error position of " + text, want, x.errorPosition());
        Check.same("and again", want, x.errorPosition());
    }

    private static void errorPosition() {
        error("", 0);
        error("v", 0);
        error(" V", 0);
        error("V", -1);
        error("VV", 1);
        error("Vdu", -1);
        error("Vd u", 2);
        error("VD", 1);
        error("Vp", 2);
        error("Vp0", 3);
        error("Vp00", 4);
        error("Vp001", 5);
        error("Vp0010", 6);
        error("Vp00100", -1);
        error("Vp59001r59t99s3", -1);
        error("Vr", 2);
        error("Vr5", 3);
        error("Vr59", -1);
        error("Vr59r", 5);
        error("Vt", 2);
        error("Vt0", 3);
        error("Vt01", -1);
        error("Vs", 2);
        error("Vs0", -1);
        error("Vs00", 3);
        error("Vx", 1);
        error("Vpd", 2);
        error("Vs0p00100p00100r01dp01050p02040p03030p04020p05010r05up06100s1p07001t99", -1);
        error("V" + "d".repeat(119), -1);
        error("V" + "d".repeat(118) + "t", 120);
        error("V" + "d".repeat(117) + "p0", 120);
        error("Vd" + (char) 0, 2);
        error("V" + (char) 255, 1);
        error("Vr" + (char) 47, 2);
        error("Vr" + (char) 58, 2);
        error("Vr0" + (char) 58, 3);
    }

    /** Every digit at every place of a number, against the list of all numbers that are allowed. */
    private static void digits() {
        everyNumber("Vp", 2, 0, 59, "001");
        everyNumber("Vp00", 3, 1, 100, "");
        everyNumber("Vr", 2, 0, 59, "");
        everyNumber("Vt", 2, 1, 99, "");
        everyNumber("Vs", 1, 0, 3, "");
    }

    private static void everyNumber(String before, int width, int least, int most, String behind) {
        int count = 1;
        for (int i = 0; i < width; i++) {
            count *= 10;
        }
        for (int n = 0; n < count; n++) {
            String number = String.format("%0" + width + "d", n);
            int want = -1;
            for (int i = 1; i <= width && want < 0; i++) {
                if (!someBeginsWith(number.substring(0, i), width, least, most)) {
                    want = before.length() + i - 1;
                }
            }
            error(before + number + behind, want);
        }
    }

    private static boolean someBeginsWith(String digits, int width, int least, int most) {
        for (int n = least; n <= most; n++) {
            if (String.format("%0" + width + "d", n).startsWith(digits)) {
                return true;
            }
        }
        return false;
    }

    private static void load() {
        StolenVoices x = new StolenVoices();
        Check.type(x, "V");
        String asNew = Check.trace(x);
        Check.same("load of V", 0, x.load());
        Check.same("as new", asNew, Check.trace(x));
        Check.type(x, "Vp01100p02050p03020t03r01t02");
        Check.same("load", 0, x.load());
        Check.same("levels", "[500, 300, 120, 0, 0, 0]", Check.levels(x));
        Check.same("phases", "[4, 3, 3, 0, 0, 0]", Check.phases(x));
        Check.same("ticks", 5, x.ticks());
        Check.same("load again", 0, x.load());
        Check.same("levels again", "[500, 300, 120, 0, 0, 0]", Check.levels(x));
        Check.same("ticks again", 5, x.ticks());
        Check.same("keeps the text", 28, x.clearText());
        Check.type(x, "Vr00p00001p00100r00r00r59");
        Check.same("left out", 4, x.load());
        Check.same("key up", false, x.isDown(0));
        Check.type(x, "Vdp07100t05r07s2");
        Check.same("load of a pedal", 0, x.load());
        Check.same("pedal", true, x.isPedalDown());
        Check.same("kept", true, x.isKept(0));
        Check.same("rule", 2, x.rule());
        Check.type(x, "Vdp07100t05r07us3");
        Check.same("load of a lifted pedal", 0, x.load());
        Check.same("pedal", false, x.isPedalDown());
        Check.same("dies", 4, x.phaseOf(0));
        Check.same("rule", 3, x.rule());
        Check.type(x, "V" + "d".repeat(119));
        Check.same("load of 120 characters", 0, x.load());
    }

    private static void loadFails() {
        StolenVoices x = Check.pressed(3, 40);
        x.save(1);
        Check.type(x, "Vp00100q");
        Check.noState("load", x, x::load);
        Check.same("keeps the text", 8, x.clearText());
        Check.noState("load of nothing", x, x::load);
        Check.same("keeps remembered states", 2, x.undo());
        Check.same("keeps the slots", 3, x.restore(1));
    }

    private static void loadForgets() {
        StolenVoices x = Check.pressed(8, 40);
        x.letGo(7);
        x.pass(1);
        Check.same("a note ended", 7, x.sounding() + x.stolen());
        x.setRising(7, 8);
        x.setStaying(9, 10);
        x.setRule(3);
        x.setPedal(true);
        x.setComingBack(true);
        x.letGo(5);
        x.press(40, 4);
        x.press(41, 4);
        x.press(42, 4);
        x.pass(50);
        x.save(0);
        x.save(1);
        Check.type(x, "Vp00100");
        Check.same("load", 0, x.load());
        StolenVoices y = Check.pressed(1, 100);
        Check.type(y, "Vp00100");
        Check.same("as new", Check.trace(y), Check.trace(x));
        Check.noState("undo", x, x::undo);
        Check.noState("slot 0", x, () -> x.restore(0));
        Check.noState("slot 1", x, () -> x.restore(1));
        Check.same("rise", 200, x.setRising(200, 100));
        Check.same("share", 60, x.setStaying(60, 50));
        x.pass(6);
        Check.same("fall", 900, x.levelOf(0));
        for (int k = 1; k < 7; k++) {
            x.press(k, 1);
        }
        x.letGo(6);
        x.pass(9);
        Check.same("one waits", 1, x.keysWaiting());
        Check.same("and one is free, but none comes back", 5, x.sounding());
    }
}
