import java.util.Random;

/** Long runs of calls, each answer against the model's: all promises. */
public final class ModelTest {
    private static final int RUNS = 1300;
    private static final int CALLS = 512;

    private final StolenVoices x = new StolenVoices();
    private final Model model = new Model();
    private final Random random;
    private final int keys;
    private final int run;
    private int made = 0;

    private ModelTest(int run) {
        this.run = run;
        random = new Random(run);
        // Few keys meet voices that have them more often, many keys steal more.
        keys = run % 3 == 0 ? 9 : run % 3 == 1 ? 16 : 60;
    }

    public static void main(String[] args) {
        for (int run = 0; run < RUNS; run++) {
            ModelTest test = new ModelTest(run);
            while (test.made < CALLS) {
                test.call();
            }
        }
        Check.end();
    }

    /** A call of each, unless the object has been used for as many calls as it may be. */
    private void both(String what, Check.Call want, Check.Call got) {
        if (made >= CALLS) {
            return;
        }
        made++;
        Check.same("run " + run + ": " + what, Check.answer(want), Check.answer(got));
    }

    private int pick(int least, int most) {
        return least + random.nextInt(most - least + 1);
    }

    /** Mostly in the range, at times at its edge or beyond it. */
    private int near(int least, int most) {
        int kind = random.nextInt(20);
        if (kind == 0) {
            return least - 1;
        }
        if (kind == 1) {
            return most + 1;
        }
        return kind == 2 ? least : kind == 3 ? most : pick(least, most);
    }

    private int key() {
        return random.nextInt(40) == 0 ? near(0, 59) : random.nextInt(keys);
    }

    private void call() {
        int kind = random.nextInt(100);
        if (kind < 50) {
            act();
        } else if (kind < 54) {
            slots();
        } else if (kind < 56) {
            text();
        } else if (kind < 78) {
            ask();
        } else {
            tell();
        }
    }

    private void act() {
        int key = key();
        boolean flag = random.nextBoolean();
        switch (random.nextInt(20)) {
            case 0, 1, 2, 3, 4, 5, 6 -> {
                int strength = near(1, 100);
                both("press " + key + " " + strength, () -> model.press(key, strength), () -> x.press(key, strength));
            }
            case 7, 8, 9, 10 -> both("letGo " + key, () -> model.letGo(key), () -> x.letGo(key));
            case 11, 12 -> both("setPedal " + flag, () -> model.setPedal(flag), () -> x.setPedal(flag));
            case 13 -> {
                int rise = near(1, flag ? 1000 : 60);
                int fall = near(1, flag ? 1000 : 60);
                both("setRising", () -> model.setRising(rise, fall), () -> x.setRising(rise, fall));
            }
            case 14 -> {
                int share = near(0, 100);
                int dying = near(1, flag ? 1000 : 60);
                both("setStaying", () -> model.setStaying(share, dying), () -> x.setStaying(share, dying));
            }
            case 15 -> {
                int rule = near(0, 3);
                both("setRule " + rule, () -> model.setRule(rule), () -> x.setRule(rule));
            }
            case 16 -> both("setComingBack", () -> model.setComingBack(flag), () -> x.setComingBack(flag));
            case 17 -> both("undo", model::undo, x::undo);
            default -> {
                int ticks = flag ? pick(1, 6) : near(1, 99);
                both("pass " + ticks, () -> model.pass(ticks), () -> x.pass(ticks));
            }
        }
    }

    private void slots() {
        int slot = near(0, 1);
        if (random.nextInt(3) > 0) {
            both("save", () -> model.save(slot), () -> x.save(slot));
        } else {
            both("restore", () -> model.restore(slot), () -> x.restore(slot));
        }
    }

    private void text() {
        if (random.nextInt(4) == 0) {
            both("clearText", model::clearText, x::clearText);
        }
        boolean bad = random.nextInt(3) == 0;
        StringBuilder more = new StringBuilder(model.text.length() == 0 ? "V" : "");
        for (int n = random.nextInt(12); n > 0; n--) {
            more.append(command());
        }
        if (bad && more.length() > 0) {
            String signs = "0123456789pdurtsV ";
            more.setCharAt(random.nextInt(more.length()), signs.charAt(random.nextInt(signs.length())));
        }
        for (int i = 0; i < more.length(); i++) {
            int c = random.nextInt(400) == 0 ? near(0, 255) : more.charAt(i);
            both("append " + c, () -> model.append(c), () -> x.append(c));
        }
        both("errorPosition of " + model.text, model::errorPosition, x::errorPosition);
        if (random.nextInt(3) > 0) {
            both("load of " + model.text, model::load, x::load);
        }
    }

    private String command() {
        int key = random.nextInt(keys);
        return switch (random.nextInt(9)) {
            case 0, 1, 2, 3 -> String.format("p%02d%03d", key, pick(1, 100));
            case 4, 5 -> String.format("r%02d", key);
            case 6 -> random.nextBoolean() ? "d" : "u";
            case 7 -> String.format("t%02d", pick(1, random.nextBoolean() ? 9 : 99));
            default -> "s" + pick(0, 3);
        };
    }

    private void ask() {
        int key = key();
        int voice = near(0, 5);
        switch (random.nextInt(13)) {
            case 0 -> both("phaseOf", () -> model.phaseOf(voice), () -> x.phaseOf(voice));
            case 1 -> both("keyOf", () -> model.keyOf(voice), () -> x.keyOf(voice));
            case 2 -> both("levelOf", () -> model.levelOf(voice), () -> x.levelOf(voice));
            case 3 -> both("isKept", () -> model.isKept(voice), () -> x.isKept(voice));
            case 4 -> both("isDown", () -> model.isDown(key), () -> x.isDown(key));
            case 5 -> both("voiceOf", () -> model.voiceOf(key), () -> x.voiceOf(key));
            case 6 -> both("voiceFor", () -> model.voiceFor(key), () -> x.voiceFor(key));
            case 7 -> both("howFor", () -> model.howFor(key), () -> x.howFor(key));
            case 8 -> both("freeByRunning", () -> model.freeIn(voice), () -> x.freeByRunning(voice));
            case 9 -> both("freeByReckoning", () -> model.freeIn(voice), () -> x.freeByReckoning(voice));
            case 10 -> {
                int ticks = near(1, random.nextBoolean() ? 200 : 9);
                both("loudestIn " + ticks, () -> model.loudestIn(ticks), () -> x.loudestIn(ticks));
            }
            case 11 -> both("quietIn", model::quietIn, x::quietIn);
            default -> {
                long seed = random.nextLong();
                int m = near(1, 60);
                both("simulate " + seed + " " + m, () -> model.simulate(seed, m), () -> x.simulate(seed, m));
            }
        }
    }

    private void tell() {
        switch (random.nextInt(17)) {
            case 0 -> both("sounding", model::sounding, x::sounding);
            case 1 -> both("oldest", model::oldest, x::oldest);
            case 2 -> both("loudnessByVoices", model::loudness, x::loudnessByVoices);
            case 3 -> both("loudnessByPhases", model::loudness, x::loudnessByPhases);
            case 4 -> both("keysDown", model::keysDown, x::keysDown);
            case 5 -> both("keysWaiting", model::keysWaiting, x::keysWaiting);
            case 6 -> both("nextBack", model::nextBack, x::nextBack);
            case 7 -> both("isPedalDown", () -> model.state.pedal, x::isPedalDown);
            case 8 -> both("notesByBeginning", () -> model.state.notes.size(), x::notesByBeginning);
            case 9 -> both("notesByEnds", () -> model.state.notes.size(), x::notesByEnds);
            case 10 -> both("stolen", () -> (int) model.state.count(Model.Fate.STOLEN), x::stolen);
            case 11 -> both("refused", () -> model.state.refused, x::refused);
            case 12 -> both("ticks", () -> model.state.ticks, x::ticks);
            case 13 -> both("rule", () -> model.state.rule, x::rule);
            case 14 -> both("victim", model::victim, x::victim);
            default -> both("errorPosition", model::errorPosition, x::errorPosition);
        }
    }
}
