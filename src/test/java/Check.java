import java.util.ArrayList;
import java.util.List;

/** What the tests share: counting wrong answers, short ways to call, and a print of all answers. */
final class Check {
    interface Call {
        Object go();
    }

    private static int wrong = 0;
    private static int done = 0;
    /** What stands ahead of each wrong answer. */
    private static String about = "";

    private Check() {
    }

    static void same(String what, Object want, Object got) {
        done++;
        if (!want.equals(got)) {
            wrong++;
            System.out.println(about + what + ": answered " + got + ", due is " + want);
        }
    }

    static void about(String words) {
        about = words;
    }

    static int done() {
        return done;
    }

    /** The answer of a call, or the name of what it throws. */
    static Object answer(Call call) {
        try {
            return call.go();
        } catch (RuntimeException e) {
            return e.getClass().getSimpleName();
        }
    }

    private static void refuses(String what, String exception, StolenVoices x, Call call) {
        String before = trace(x);
        same(what, exception, answer(call));
        same(what + " changes nothing", before, trace(x));
    }

    static void noIndex(String what, StolenVoices x, Call call) {
        refuses(what, "IndexOutOfBoundsException", x, call);
    }

    static void noArgument(String what, StolenVoices x, Call call) {
        refuses(what, "IllegalArgumentException", x, call);
    }

    static void noState(String what, StolenVoices x, Call call) {
        refuses(what, "IllegalStateException", x, call);
    }

    static void end() {
        System.out.println(done + " checks, " + wrong + " wrong");
        if (wrong != 0) {
            System.exit(1);
        }
    }

    static void type(StolenVoices x, String text) {
        x.clearText();
        for (int i = 0; i < text.length(); i++) {
            x.append(text.charAt(i));
        }
    }

    static StolenVoices playing(String text) {
        StolenVoices x = new StolenVoices();
        type(x, text);
        x.load();
        return x;
    }

    /** A new object with the keys 0 to n - 1 pressed, in this order, each with the strength. */
    static StolenVoices pressed(int n, int strength) {
        StolenVoices x = new StolenVoices();
        for (int k = 0; k < n; k++) {
            x.press(k, strength);
        }
        return x;
    }

    /** All that the calls that change nothing tell, in some 300 calls. */
    static String print(StolenVoices x) {
        List<Object> all = new ArrayList<>();
        for (int v = 0; v < 6; v++) {
            all.add(x.phaseOf(v) + ":" + x.keyOf(v) + ":" + x.levelOf(v) + ":" + x.isKept(v)
                + ":" + x.freeByRunning(v) + ":" + x.freeByReckoning(v));
        }
        for (int k = 0; k < 60; k++) {
            int key = k;
            all.add(x.isDown(k) + ":" + x.voiceOf(k) + ":" + x.howFor(k) + ":" + answer(() -> x.voiceFor(key)));
        }
        all.add(List.of(x.errorPosition(), x.sounding(), x.oldest(), x.loudnessByVoices(), x.loudnessByPhases()));
        all.add(List.of(x.keysDown(), x.keysWaiting(), x.nextBack(), x.isPedalDown()));
        all.add(List.of(x.notesByBeginning(), x.notesByEnds(), x.stolen(), x.refused(), x.ticks(), x.rule()));
        all.add(List.of(x.victim(), x.loudestIn(1), x.loudestIn(30), x.quietIn()));
        all.add(List.of(x.simulate(1, 60), x.simulate(-77, 60), x.simulate(123456789L, 30)));
        return all.toString();
    }

    /** A part of it, in twelve calls: an object is used for at most 512 calls. */
    static String trace(StolenVoices x) {
        return List.of(x.keysDown(), x.keysWaiting(), x.notesByBeginning(), x.notesByEnds(), x.stolen(), x.refused(),
            x.ticks(), x.rule(), x.isPedalDown(), x.loudestIn(30), x.quietIn(), x.simulate(7, 60)).toString();
    }

    static String levels(StolenVoices x) {
        List<Object> all = new ArrayList<>();
        for (int v = 0; v < 6; v++) {
            all.add(x.levelOf(v));
        }
        return all.toString();
    }

    static String keys(StolenVoices x) {
        List<Object> all = new ArrayList<>();
        for (int v = 0; v < 6; v++) {
            all.add(x.keyOf(v));
        }
        return all.toString();
    }

    static String phases(StolenVoices x) {
        List<Object> all = new ArrayList<>();
        for (int v = 0; v < 6; v++) {
            all.add(x.phaseOf(v));
        }
        return all.toString();
    }
}
