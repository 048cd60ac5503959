/** The term "TEXT", and the promises 1 to 5, sentence by sentence. */
final class TextEdges {
    private static final String PART = "TEXT";

    /** What may stand behind a text that ends at the place: first the text, then the signs. */
    private static final String[][] PLACES = {
        {"", "V"}, {"V", "prduts"},
        {"Vp", "012345"}, {"Vp0", "0123456789"}, {"Vp5", "0123456789"},
        {"Vp00", "01"}, {"Vp59", "01"},
        {"Vp000", "0123456789"}, {"Vp001", "0"},
        {"Vp0000", "123456789"}, {"Vp0001", "0123456789"}, {"Vp0009", "0123456789"}, {"Vp0010", "0"},
        {"Vp00001", "prduts"}, {"Vp00100", "prduts"},
        {"Vr", "012345"}, {"Vr0", "0123456789"}, {"Vr5", "0123456789"}, {"Vr59", "prduts"},
        {"Vd", "prduts"}, {"Vu", "prduts"},
        {"Vt", "0123456789"}, {"Vt0", "123456789"}, {"Vt1", "0123456789"}, {"Vt9", "0123456789"},
        {"Vt99", "prduts"},
        {"Vs", "0123"}, {"Vs0", "prduts"}, {"Vs3", "prduts"},
        {"Vdus2p59100r59t01", "prduts"}, {"Vdus2p59100r59t01p30", "01"}};

    private TextEdges() {
    }

    static void all() {
        Sentence.holds(PART, "a text buffer of at most 120 characters", TextEdges::atMost120);
        Sentence.holds(PART, "the letter V, and then any number of commands", TextEdges::anyNumberOfCommands);
        Sentence.holds(PART, "a key is two digits (00 to 59)", TextEdges::keyDigits);
        Sentence.holds(PART, "p, a key, and three digits for the strength (001 to 100): press()", TextEdges::presses);
        Sentence.holds(PART, "r and a key: letGo()", TextEdges::letsGo);
        Sentence.holds(PART, "d: the pedal down", TextEdges::pedalDown);
        Sentence.holds(PART, "u: the pedal up", TextEdges::pedalUp);
        Sentence.holds(PART, "t and two digits (01 to 99): pass()", TextEdges::passes);
        Sentence.holds(PART, "s and a digit (0 to 3): setRule()", TextEdges::setsRule);
        Sentence.holds(PART, "Commands that would throw an exception are left out", TextEdges::leftOut);
        Sentence.holds(PART, "There are no blanks", TextEdges::noBlanks);
        Sentence.holds(PART, "The text is read from left to right", TextEdges::leftToRight);
        Sentence.holds(PART, "the first character that these rules do not allow at its place", TextEdges::everySign);
        Sentence.holds(PART, "(a digit is not allowed if no number that is allowed begins with it and those before it)",
            TextEdges::everyDigit);
        Sentence.holds(PART, "if the text ends too soon, it is the length of the text", TextEdges::endsTooSoon);
        newObject();
        append();
        clearText();
        errorPosition();
        load();
    }

    // ---- the term

    private static void atMost120() {
        StolenVoices x = new StolenVoices();
        Check.type(x, "V" + "d".repeat(118));
        Check.same("119", -1, x.errorPosition());
        Check.same("120", 120, x.append('p'));
        Check.same("all 120 are read", 120, x.errorPosition());
        Check.same("121", "IllegalStateException", Check.answer(() -> x.append('0')));
        Check.same("120 stay", 120, x.clearText());
    }

    private static void error(String text, int want) {
        StolenVoices x = new StolenVoices();
        Check.type(x, text);
        Check.same("error position of " + text, want, x.errorPosition());
    }

    private static void anyNumberOfCommands() {
        error("V", -1);
        error("Vu", -1);
        error("Vud", -1);
        error("V" + "u".repeat(119), -1);
        error("V" + "s1".repeat(59) + "d", -1);
        error("V" + "t50".repeat(39) + "s0", -1);
        error("V" + "p10020".repeat(19) + "r10" + "d", -1);
        error("u", 0);
        error("v", 0);
        error("uV", 0);
        error("VV", 1);
        error("VuV", 2);
    }

    private static void keyDigits() {
        StolenVoices x = Check.playing("Vp00001p09002p10003p50004p59005");
        Check.same("keys", "[0, 9, 10, 50, 59, -1]", Check.keys(x));
        error("Vp60001", 2);
        error("Vp99001", 2);
        error("Vr00", -1);
        error("Vr59", -1);
        error("Vr60", 2);
        error("Vr5d", 3);
        error("Vr5", 3);
        error("Vr590", 4);
    }

    private static void presses() {
        StolenVoices x = Check.playing("Vp00001p59100p30042t05");
        Check.same("keys", "[0, 59, 30, -1, -1, -1]", Check.keys(x));
        Check.same("all are down", 3, x.keysDown());
        Check.same("strengths", "[6, 1000, 252, 0, 0, 0]", Check.levels(x));
        error("Vp00000", 6);
        error("Vp00001", -1);
        error("Vp00099", -1);
        error("Vp00100", -1);
        error("Vp00101", 6);
        error("Vp00110", 5);
        error("Vp00200", 4);
        error("Vp0001", 6);
        error("Vp000010", 7);
    }

    private static void letsGo() {
        StolenVoices x = Check.playing("Vp00050p59050r59");
        Check.same("up", false, x.isDown(59));
        Check.same("still down", true, x.isDown(0));
        Check.same("it dies", "[1, 4, 0, 0, 0, 0]", Check.phases(x));
        Check.same("it is a press again", "[1, 1, 0, 0, 0, 0]", Check.phases(Check.playing("Vp00050p59050r59p59050")));
        Check.same("the first key", "[4, 1, 0, 0, 0, 0]", Check.phases(Check.playing("Vp00050p59050r00")));
    }

    private static void pedalDown() {
        StolenVoices x = Check.playing("Vp00050dr00");
        Check.same("down", true, x.isPedalDown());
        Check.same("kept", true, x.isKept(0));
        Check.same("down twice", true, Check.playing("Vdd").isPedalDown());
    }

    private static void pedalUp() {
        StolenVoices x = Check.playing("Vp00050dr00u");
        Check.same("up", false, x.isPedalDown());
        Check.same("it dies", 4, x.phaseOf(0));
        Check.same("up twice", false, Check.playing("Vduu").isPedalDown());
        Check.same("up at first", false, Check.playing("Vu").isPedalDown());
        Check.same("down again", true, Check.playing("Vdud").isPedalDown());
    }

    private static void passes() {
        Check.same("the least", 1, Check.playing("Vt01").ticks());
        Check.same("the greatest", 99, Check.playing("Vt99").ticks());
        Check.same("both", 100, Check.playing("Vt01t99").ticks());
        Check.same("tens", 10, Check.playing("Vt10").ticks());
        Check.same("as many as a text holds", 39 * 99, Check.playing("V" + "t99".repeat(39)).ticks());
        Check.same("voices move", "[400, 0, 0, 0, 0, 0]", Check.levels(Check.playing("Vp00100t02")));
        error("Vt00", 3);
        error("Vt0", 3);
        error("Vt100", 4);
    }

    private static void setsRule() {
        for (int rule = 0; rule <= 3; rule++) {
            Check.same("the rule", rule, Check.playing("Vs" + rule).rule());
        }
        Check.same("the last one", 1, Check.playing("Vs3s1").rule());
        Check.same("none", 0, Check.playing("V").rule());
        error("Vs4", 2);
        error("Vs9", 2);
        error("Vs33", 3);
        error("Vs", 2);
    }

    private static int leftOutOf(String text) {
        StolenVoices x = new StolenVoices();
        Check.type(x, text);
        return x.load();
    }

    private static void leftOut() {
        Check.same("a key that is down", 1, leftOutOf("Vp00100p00050"));
        StolenVoices x = Check.playing("Vp00100p00050t05");
        Check.same("the first strength holds", 1000, x.levelOf(0));
        Check.same("one note", 1, x.notesByBeginning());
        Check.same("a key that is up", 1, leftOutOf("Vr00"));
        Check.same("a key that is down without a voice", 1,
            leftOutOf("Vs3p00100p01100p02100p03100p04100p05100p06100p06100"));
        Check.same("it may be let go", 0, leftOutOf("Vs3p00100p01100p02100p03100p04100p05100p06100r06"));
        Check.same("but once only", 1, leftOutOf("Vs3p00100p01100p02100p03100p04100p05100p06100r06r06"));
        Check.same("up with its voice kept", 1, leftOutOf("Vdp00100r00r00"));
        Check.same("up with its voice dying", 1, leftOutOf("Vp00100r00r00"));
    }

    private static void noBlanks() {
        error(" V", 0);
        error("V ", 1);
        error(" ", 0);
        error("Vd u", 2);
        error("Vp 0001", 2);
        error("Vp0 001", 3);
        error("Vp00 01", 4);
        error("Vp000 1", 5);
        error("Vp0000 ", 6);
        error("Vp00001 ", 7);
        error("Vr 0", 2);
        error("Vt 1", 2);
        error("Vs 1", 2);
        error("Vd\n", 2);
        error("Vd\t", 2);
    }

    private static void leftToRight() {
        error("xVx", 0);
        error("Vxs4", 1);
        error("Vs4x", 2);
        error("Vs4p60", 2);
        error("Vdp60s4", 3);
        StolenVoices x = Check.playing("Vp00100t01r00t01");
        Check.same("200, then 150", 150, x.levelOf(0));
        StolenVoices y = Check.playing("Vp00100r00t01t01");
        Check.same("it died at 0", 0, y.sounding());
        Check.same("r before p is left out", 1, leftOutOf("Vr00p00100"));
        Check.same("r behind p is not", 0, leftOutOf("Vp00100r00"));
    }

    /** Every sign at every place of a command. */
    private static void everySign() {
        for (String[] place : PLACES) {
            for (int c = 0; c <= 255; c++) {
                if (place[1].indexOf(c) < 0) {
                    error(place[0] + (char) c, place[0].length());
                    error(place[0] + (char) c + "dV", place[0].length());
                }
            }
        }
        String long118 = "V" + "d".repeat(117);
        error(long118 + "dx", 119);
        error(long118 + "xd", 118);
        error(long118 + "s4", 119);
        error(long118 + "s3", -1);
    }

    private static boolean mayEnd(String text) {
        return text.matches("V([du]|s.|[rt]..|p.....)*");
    }

    /** Every sign that is allowed at a place of a command. */
    private static void everyDigit() {
        for (String[] place : PLACES) {
            for (char c : place[1].toCharArray()) {
                String text = place[0] + c;
                error(text, mayEnd(text) ? -1 : text.length());
                error(text + "x", text.length());
            }
        }
        error("Vp00", 4);
        error("Vp002", 4);
        error("Vp0011", 5);
        error("Vp00101", 6);
        error("Vp00000", 6);
        error("Vt00", 3);
        error("Vp6", 2);
        error("Vs4", 2);
    }

    private static void endsTooSoon() {
        String[] whole = {"V", "Vp59100", "Vr59", "Vt99", "Vs3", "Vdup00001", "Vs0r00"};
        int[] ends = {1, 7, 4, 4, 3, 9, 6};
        String[] places = {"0", "0 2 3 4 5 6", "0 2 3", "0 2 3", "0 2", "0 4 5 6 7 8", "0 2 4 5"};
        for (int i = 0; i < whole.length; i++) {
            Check.same("its length", ends[i], whole[i].length());
            for (int n = 0; n <= whole[i].length(); n++) {
                boolean tooSoon = (" " + places[i] + " ").contains(" " + n + " ");
                error(whole[i].substring(0, n), tooSoon ? n : -1);
            }
        }
        error("V" + "d".repeat(118) + "p", 120);
        error("V" + "d".repeat(117) + "s0", -1);
        error("V" + "d".repeat(114) + "p0010", 120);
    }

    // ---- promise 1

    private static void newObject() {
        Sentence.holds("Promise 1", "Creates a synthesizer in which all voices are free", () -> {
            StolenVoices x = new StolenVoices();
            Check.same("none sounds", 0, x.sounding());
            Check.same("phases", "[0, 0, 0, 0, 0, 0]", Check.phases(x));
            Check.same("keys", "[-1, -1, -1, -1, -1, -1]", Check.keys(x));
            Check.same("levels", "[0, 0, 0, 0, 0, 0]", Check.levels(x));
            Check.same("no key is down", 0, x.keysDown());
            Check.same("the pedal", false, x.isPedalDown());
            Check.same("no note", 0, x.notesByBeginning() + x.notesByEnds() + x.stolen() + x.refused());
            Check.same("no tick", 0, x.ticks());
            Check.same("the rule", 0, x.rule());
            Check.same("the text", 0, x.errorPosition());
            Check.same("nothing to undo", "IllegalStateException", Check.answer(x::undo));
            Check.same("nothing in slot 0", "IllegalStateException", Check.answer(() -> x.restore(0)));
            Check.same("nothing in slot 1", "IllegalStateException", Check.answer(() -> x.restore(1)));
            Check.same("the text's length", 0, x.clearText());
        });
        Sentence.holds("Promise 1", "a synthesizer", () -> {
            StolenVoices x = new StolenVoices();
            StolenVoices y = new StolenVoices();
            x.press(3, 3);
            x.append(86);
            x.save(0);
            Check.same("another object is another one", 0, y.sounding() + y.clearText());
            Check.same("its slots, too", "IllegalStateException", Check.answer(() -> y.restore(0)));
            Check.same("its past, too", "IllegalStateException", Check.answer(y::undo));
        });
    }

    // ---- promise 2

    private static StolenVoices fullText() {
        StolenVoices x = new StolenVoices();
        Check.type(x, "V" + "s3".repeat(59) + "d");
        return x;
    }

    private static void append() {
        Sentence.holds("Promise 2", "Appends a character to the text buffer", () -> {
            StolenVoices x = new StolenVoices();
            x.append('V');
            x.append('s');
            Check.same("it ends too soon", 2, x.errorPosition());
            x.append('3');
            Check.same("at the end", -1, x.errorPosition());
            x.load();
            Check.same("it is read", 3, x.rule());
        });
        Sentence.holds("Promise 2", "character code, 0 to 255", () -> {
            StolenVoices x = new StolenVoices();
            Check.same("the least", 1, x.append(0));
            Check.same("the greatest", 2, x.append(255));
            Check.same("they are no piece", 0, x.errorPosition());
            error("V" + (char) 0, 1);
            error("V" + (char) 255, 1);
            error("Vd" + (char) ('d' + 128), 2);
        });
        Sentence.holds("Promise 2", "Returns the new length of the text", () -> {
            StolenVoices x = new StolenVoices();
            for (int n = 1; n <= 120; n++) {
                Check.same("length", n, x.append('V'));
            }
            x.clearText();
            Check.same("from 1 again", 1, x.append('V'));
        });
        Sentence.holds("Promise 2", "if c is out of range", () -> {
            for (int bad : new int[] {-1, 256, Integer.MIN_VALUE, Integer.MAX_VALUE, 65536 + 'd'}) {
                Twins.noArgument(Twins::some, x -> x.append(bad));
                Twins.noArgument(TextEdges::fullText, x -> x.append(bad));
            }
        });
        Sentence.holds("Promise 2", "if the text already has 120 characters", () -> {
            for (int c : new int[] {0, 'd', 255}) {
                Twins.noState(TextEdges::fullText, x -> x.append(c));
            }
            StolenVoices x = new StolenVoices();
            Check.type(x, "V" + "d".repeat(118));
            Check.same("119 are not 120", 120, x.append('d'));
            x.load();
            Check.same("load empties it not", "IllegalStateException", Check.answer(() -> x.append('d')));
        });
    }

    // ---- promise 3

    private static void clearText() {
        Sentence.holds("Promise 3", "Empties the text buffer", () -> {
            StolenVoices x = fullText();
            x.clearText();
            Check.same("empty", 0, x.errorPosition());
            Check.same("no piece", "IllegalStateException", Check.answer(x::load));
            x.append('V');
            Check.same("nothing is left of it", -1, x.errorPosition());
            x.load();
            Check.same("nothing is left of it", 0, x.rule());
        });
        Sentence.holds("Promise 3", "Returns the previous length of the text", () -> {
            StolenVoices x = new StolenVoices();
            Check.same("empty", 0, x.clearText());
            x.append('V');
            Check.same("one", 1, x.clearText());
            Check.same("empty again", 0, x.clearText());
            Check.same("full", 120, fullText().clearText());
        });
        Sentence.holds("Promise 3", "the text buffer", () -> {
            Twins.changesNothing(StolenVoices::new, StolenVoices::clearText);
            Twins.changesNothing(TextEdges::withoutText, x -> {
                Check.same("append", 1, x.append('V'));
                Check.same("and emptied again", 1, x.clearText());
            });
        });
    }

    private static StolenVoices withoutText() {
        StolenVoices x = Twins.full();
        x.clearText();
        return x;
    }

    // ---- promise 4

    private static void errorPosition() {
        Sentence.holds("Promise 4", "Checks the text", () -> {
            Twins.changesNothing(Twins::full, x -> Check.same("a piece", -1, x.errorPosition()));
            Twins.changesNothing(TextEdges::fullText, x -> Check.same("a full one", -1, x.errorPosition()));
            Twins.changesNothing(StolenVoices::new, x -> Check.same("none", 0, x.errorPosition()));
        });
        Sentence.holds("Promise 4", "Returns the error position of the text", () -> {
            error("", 0);
            error("Vdx", 2);
            error("Vp5", 3);
        });
        Sentence.holds("Promise 4", "NONE if it is a piece", () -> {
            error("V", StolenVoices.NONE);
            error("Vr00r00", StolenVoices.NONE);
            Check.same("full", StolenVoices.NONE, fullText().errorPosition());
        });
    }

    // ---- promise 5

    private static void load() {
        Sentence.holds("Promise 5", "Makes everything as in a new object", TextEdges::loadMakesNew);
        Sentence.holds("Promise 5", "and then does the commands of the text", () -> {
            StolenVoices x = Twins.full();
            Check.type(x, "Vp07050t02s2dp08100t01r07");
            x.load();
            Check.same("levels", "[500, 200, 0, 0, 0, 0]", Check.levels(x));
            Check.same("keys", "[7, 8, -1, -1, -1, -1]", Check.keys(x));
            Check.same("kept", true, x.isKept(0));
            Check.same("ticks", 3, x.ticks());
            Check.same("rule", 2, x.rule());
            StolenVoices y = Check.playing("V" + "d".repeat(118) + "u");
            Check.same("to the last of 120 characters", false, y.isPedalDown());
        });
        Sentence.holds("Promise 5", "Behind it no state is remembered", () -> {
            StolenVoices x = Twins.full();
            x.load();
            Check.same("none", "IllegalStateException", Check.answer(x::undo));
            x.setRule(3);
            Check.same("one", 0, x.undo());
            Check.same("as loaded", 0, x.rule());
            Check.same("none again", "IllegalStateException", Check.answer(x::undo));
        });
        Sentence.holds("Promise 5", "and both save slots are empty", () -> {
            StolenVoices x = Twins.full();
            x.save(0);
            x.load();
            Check.same("slot 0", "IllegalStateException", Check.answer(() -> x.restore(0)));
            Check.same("slot 1", "IllegalStateException", Check.answer(() -> x.restore(1)));
            x.save(1);
            Check.same("slot 0 is still empty", "IllegalStateException", Check.answer(() -> x.restore(0)));
            Check.same("slot 1 is used", 1, x.restore(1));
        });
        Sentence.holds("Promise 5", "Keeps the text, also if it throws the exception", () -> {
            StolenVoices x = Check.playing("Vs2");
            x.setRule(0);
            x.load();
            Check.same("once more", 2, x.rule());
            x.append('q');
            Check.same("no piece", "IllegalStateException", Check.answer(x::load));
            Check.same("kept", 4, x.clearText());
        });
        Sentence.holds("Promise 5", "Returns the number of commands that are left out", () -> {
            Check.same("of none", 0, leftOutOf("V"));
            for (String done : new String[] {"p00001", "p59100", "d", "u", "t01", "t99", "s0", "s3", "dd", "uu"}) {
                Check.same("none of " + done, 0, leftOutOf("V" + done));
            }
            Check.same("none of two", 0, leftOutOf("Vp59001r59"));
            Check.same("none of one", 0, leftOutOf("Vp00001"));
            Check.same("one of one", 1, leftOutOf("Vr00"));
            Check.same("all of 39", 39, leftOutOf("V" + "r59".repeat(39)));
            Check.same("all but the first of 19", 18, leftOutOf("V" + "p59100".repeat(19)));
            StolenVoices x = Check.playing("Vr00r00");
            Check.same("not those of the load before", 2, x.load());
        });
        Sentence.holds("Promise 5", "if the text is not a piece", () -> {
            for (String bad : new String[] {"", "d", "Vx", "Vp0010", "Vp07050t02q", "V" + "d".repeat(118) + "s"}) {
                Twins.noState(() -> withText(bad), StolenVoices::load);
            }
        });
    }

    private static StolenVoices withText(String text) {
        StolenVoices x = Twins.some();
        x.save(0);
        Check.type(x, text);
        return x;
    }

    private static void loadMakesNew() {
        StolenVoices x = Twins.full();
        x.pass(60);
        x.save(0);
        Check.type(x, "V");
        x.load();
        StolenVoices y = new StolenVoices();
        Check.type(y, "V");
        Check.same("all that is told", Check.print(y), Check.print(x));
        StolenVoices z = Twins.full();
        z.press(59, 100);
        Check.type(z, "V");
        z.load();
        Check.same("no key is down, from 0 to 59", 0, z.keysDown());
        Check.same("rise", 200, z.setRising(200, 100));
        Check.same("share", 60, z.setStaying(60, 50));
        for (int k = 0; k < 7; k++) {
            z.press(k, 100);
        }
        Check.same("the first one is stolen", -1, z.voiceOf(0));
        z.pass(6);
        Check.same("fall", 900, z.levelOf(1));
        z.letGo(6);
        z.pass(1);
        Check.same("dying", 850, z.levelOf(0));
        z.pass(99);
        Check.same("no key comes back", 5, z.sounding());
    }
}
