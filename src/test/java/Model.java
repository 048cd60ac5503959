import java.util.ArrayDeque;
import java.util.ArrayList;
import java.util.Comparator;
import java.util.Deque;
import java.util.List;
import java.util.Optional;
import java.util.regex.Matcher;
import java.util.regex.Pattern;

/** The document a second time, written for clearness alone and in another way than the class. */
final class Model {
    enum Phase { FREE, RISING, FALLING, STAYING, DYING }

    enum Fate { SOUNDS, ENDED, STOLEN }

    record Held(int key, int strength) { }

    static final class Note {
        Fate fate = Fate.SOUNDS;
    }

    static final class Sound {
        final int voice;
        final int key;
        final Note note;
        int strength;
        int level = 0;
        Phase phase = Phase.RISING;

        Sound(int voice, int key, int strength, Note note) {
            this.voice = voice;
            this.key = key;
            this.strength = strength;
            this.note = note;
        }
    }

    static final class State {
        /** The voices that are not free, the oldest first. */
        final List<Sound> sounds = new ArrayList<>();
        /** The keys that are down, the first pressed first. */
        final List<Held> down = new ArrayList<>();
        final List<Note> notes = new ArrayList<>();
        int rise = 200;
        int fall = 100;
        int share = 60;
        int dying = 50;
        int rule = 0;
        int refused = 0;
        int ticks = 0;
        boolean pedal = false;
        boolean back = false;

        State copy() {
            State c = new State();
            for (Note n : notes) {
                Note m = new Note();
                m.fate = n.fate;
                c.notes.add(m);
            }
            for (Sound s : sounds) {
                Sound t = new Sound(s.voice, s.key, s.strength, c.notes.get(notes.indexOf(s.note)));
                t.level = s.level;
                t.phase = s.phase;
                c.sounds.add(t);
            }
            c.down.addAll(down);
            c.rise = rise;
            c.fall = fall;
            c.share = share;
            c.dying = dying;
            c.rule = rule;
            c.refused = refused;
            c.ticks = ticks;
            c.pedal = pedal;
            c.back = back;
            return c;
        }

        Optional<Sound> ofVoice(int voice) {
            return sounds.stream().filter(s -> s.voice == voice).findFirst();
        }

        Optional<Sound> ofKey(int key) {
            return sounds.stream().filter(s -> s.key == key).findFirst();
        }

        boolean isDown(int key) {
            return down.stream().anyMatch(h -> h.key() == key);
        }

        List<Held> waiting() {
            return down.stream().filter(h -> ofKey(h.key()).isEmpty()).toList();
        }

        long count(Fate fate) {
            return notes.stream().filter(n -> n.fate == fate).count();
        }

        int free() {
            for (int v = 0; v < 6; v++) {
                if (ofVoice(v).isEmpty()) {
                    return v;
                }
            }
            return -1;
        }

        Optional<Sound> prey() {
            Optional<Sound> dies = sounds.stream().filter(s -> s.phase == Phase.DYING).findFirst();
            Optional<Sound> first = sounds.stream().findFirst();
            return switch (rule) {
                case 0 -> sounds.stream().min(Comparator.comparingInt(s -> s.level));
                case 1 -> first;
                case 2 -> dies.isPresent() ? dies : first;
                default -> dies;
            };
        }

        void begin(int voice, Held held) {
            Note note = new Note();
            notes.add(note);
            sounds.add(new Sound(voice, held.key(), held.strength(), note));
        }

        int press(int key, int strength) {
            Held held = new Held(key, strength);
            down.add(held);
            Optional<Sound> own = ofKey(key);
            if (own.isPresent()) {
                Sound s = own.get();
                s.phase = Phase.RISING;
                s.strength = strength;
                sounds.remove(s);
                sounds.add(s);
                return s.voice;
            }
            int voice = free();
            if (voice < 0) {
                Optional<Sound> prey = prey();
                if (prey.isEmpty()) {
                    refused++;
                    return -1;
                }
                prey.get().note.fate = Fate.STOLEN;
                voice = prey.get().voice;
                sounds.remove(prey.get());
            }
            begin(voice, held);
            return voice;
        }

        int letGo(int key) {
            down.removeIf(h -> h.key() == key);
            Optional<Sound> own = ofKey(key);
            if (own.isPresent() && !pedal) {
                own.get().phase = Phase.DYING;
            }
            return own.map(s -> s.voice).orElse(-1);
        }

        boolean kept(Sound s) {
            return !isDown(s.key) && s.phase != Phase.DYING;
        }

        int setPedal(boolean to) {
            pedal = to;
            List<Sound> freed = to ? List.of() : sounds.stream().filter(this::kept).toList();
            freed.forEach(s -> s.phase = Phase.DYING);
            return freed.size();
        }

        int pass(int n) {
            long before = count(Fate.ENDED);
            for (int i = 0; i < n; i++) {
                ticks++;
                new ArrayList<>(sounds).forEach(this::move);
                while (back && free() >= 0 && !waiting().isEmpty()) {
                    begin(free(), waiting().get(waiting().size() - 1));
                }
            }
            return (int) (count(Fate.ENDED) - before);
        }

        void move(Sound s) {
            int peak = s.strength * 10;
            int rest = (int) Math.floor(peak * share / 100.0);
            switch (s.phase) {
                case RISING -> {
                    boolean there = s.level + rise >= peak;
                    s.level = there ? peak : s.level + rise;
                    s.phase = there ? Phase.FALLING : Phase.RISING;
                }
                case FALLING -> {
                    boolean there = s.level - fall <= rest;
                    s.level = there ? rest : s.level - fall;
                    s.phase = there ? Phase.STAYING : Phase.FALLING;
                }
                case DYING -> {
                    s.level -= dying;
                    if (s.level <= 0) {
                        s.note.fate = Fate.ENDED;
                        sounds.remove(s);
                    }
                }
                default -> { }
            }
        }

        int loudness() {
            return sounds.stream().mapToInt(s -> s.level).sum();
        }
    }

    private static final Pattern COMMAND =
        Pattern.compile("p([0-5]\\d)(100|0\\d[1-9]|0[1-9]\\d)|r[0-5]\\d|d|u|t(?:0[1-9]|[1-9]\\d)|s[0-3]");

    State state = new State();
    final Deque<State> past = new ArrayDeque<>();
    final State[] slots = new State[2];
    final StringBuilder text = new StringBuilder();

    static void need(boolean holds, RuntimeException otherwise) {
        if (!holds) {
            throw otherwise;
        }
    }

    static void index(int i, int end) {
        need(i >= 0 && i < end, new IndexOutOfBoundsException());
    }

    static void range(int value, int least, int most) {
        need(value >= least && value <= most, new IllegalArgumentException());
    }

    static void may(boolean holds) {
        need(holds, new IllegalStateException());
    }

    private State act() {
        past.addLast(state.copy());
        if (past.size() > 14) {
            past.removeFirst();
        }
        return state;
    }

    int append(int c) {
        range(c, 0, 255);
        may(text.length() < 120);
        return text.append((char) c).length();
    }

    int clearText() {
        int n = text.length();
        text.setLength(0);
        return n;
    }

    /** Whether some piece begins with the characters: a command that is begun can be ended by one of these. */
    static boolean begins(String chars) {
        if (!chars.startsWith("V")) {
            return chars.isEmpty();
        }
        int at = 1;
        Matcher m = COMMAND.matcher(chars);
        while (m.region(at, chars.length()).lookingAt()) {
            at = m.end();
        }
        String rest = chars.substring(at);
        if (rest.isEmpty()) {
            return true;
        }
        for (String end : List.of("00001", "00100", "0001", "0100", "001", "100", "01", "00", "1", "0")) {
            if (COMMAND.matcher(rest + end).matches()) {
                return true;
            }
        }
        return false;
    }

    static boolean isPiece(String chars) {
        return chars.matches("V(?:" + COMMAND.pattern() + ")*");
    }

    int errorPosition() {
        if (isPiece(text.toString())) {
            return -1;
        }
        for (int i = 0; i < text.length(); i++) {
            if (!begins(text.substring(0, i + 1))) {
                return i;
            }
        }
        return text.length();
    }

    int load() {
        may(errorPosition() < 0);
        state = new State();
        past.clear();
        slots[0] = null;
        slots[1] = null;
        int out = 0;
        Matcher m = COMMAND.matcher(text);
        for (int at = 1; at < text.length(); at = m.end()) {
            m.region(at, text.length()).lookingAt();
            try {
                command(m.group());
            } catch (IllegalStateException e) {
                out++;
            }
        }
        past.clear();
        return out;
    }

    private void command(String c) {
        int number = c.length() > 1 ? Integer.parseInt(c.substring(1, Math.min(3, c.length()))) : 0;
        switch (c.charAt(0)) {
            case 'p' -> press(number, Integer.parseInt(c.substring(3)));
            case 'r' -> letGo(number);
            case 't' -> pass(number);
            case 's' -> setRule(number);
            default -> setPedal(c.equals("d"));
        }
    }

    int phaseOf(int v) {
        index(v, 6);
        return state.ofVoice(v).map(s -> s.phase.ordinal()).orElse(0);
    }

    int keyOf(int v) {
        index(v, 6);
        return state.ofVoice(v).map(s -> s.key).orElse(-1);
    }

    int levelOf(int v) {
        index(v, 6);
        return state.ofVoice(v).map(s -> s.level).orElse(0);
    }

    boolean isKept(int v) {
        index(v, 6);
        return state.ofVoice(v).map(state::kept).orElse(false);
    }

    int sounding() {
        return state.sounds.size();
    }

    int oldest() {
        return state.sounds.stream().findFirst().map(s -> s.voice).orElse(-1);
    }

    int loudness() {
        return state.loudness();
    }

    boolean isDown(int key) {
        index(key, 60);
        return state.isDown(key);
    }

    int voiceOf(int key) {
        index(key, 60);
        return state.ofKey(key).map(s -> s.voice).orElse(-1);
    }

    int keysDown() {
        return state.down.size();
    }

    int keysWaiting() {
        return state.waiting().size();
    }

    int nextBack() {
        List<Held> w = state.waiting();
        return w.isEmpty() ? -1 : w.get(w.size() - 1).key();
    }

    int press(int key, int strength) {
        index(key, 60);
        range(strength, 1, 100);
        may(!state.isDown(key));
        return act().press(key, strength);
    }

    int letGo(int key) {
        index(key, 60);
        may(state.isDown(key));
        return act().letGo(key);
    }

    int setPedal(boolean down) {
        return act().setPedal(down);
    }

    int setRising(int rise, int fall) {
        range(rise, 1, 1000);
        range(fall, 1, 1000);
        int was = act().rise;
        state.rise = rise;
        state.fall = fall;
        return was;
    }

    int setStaying(int share, int dying) {
        range(share, 0, 100);
        range(dying, 1, 1000);
        int was = act().share;
        state.share = share;
        state.dying = dying;
        return was;
    }

    int setRule(int rule) {
        range(rule, 0, 3);
        int was = act().rule;
        state.rule = rule;
        return was;
    }

    int setComingBack(boolean on) {
        act().back = on;
        return keysWaiting();
    }

    int pass(int ticks) {
        range(ticks, 1, 99);
        return act().pass(ticks);
    }

    int undo() {
        may(!past.isEmpty());
        state = past.removeLast();
        return past.size();
    }

    int voiceFor(int key) {
        index(key, 60);
        may(!state.isDown(key));
        return state.copy().press(key, 1);
    }

    int howFor(int key) {
        index(key, 60);
        if (state.isDown(key)) {
            return 4;
        }
        State after = state.copy();
        if (after.press(key, 1) < 0) {
            return 3;
        }
        if (after.notes.size() == state.notes.size()) {
            return 0;
        }
        return after.count(Fate.STOLEN) > state.count(Fate.STOLEN) ? 2 : 1;
    }

    int victim() {
        return sounding() < 6 ? -1 : state.prey().map(s -> s.voice).orElse(-1);
    }

    int freeIn(int v) {
        index(v, 6);
        State c = state.copy();
        c.back = false;
        c.ofVoice(v).ifPresent(s -> s.phase = Phase.DYING);
        int n = 0;
        while (c.ofVoice(v).isPresent()) {
            c.pass(1);
            n++;
        }
        return n;
    }

    int loudestIn(int ticks) {
        range(ticks, 1, 200);
        State c = state.copy();
        int most = 0;
        for (int i = 0; i < ticks; i++) {
            c.pass(1);
            most = Math.max(most, c.loudness());
        }
        return most;
    }

    int quietIn() {
        State c = state.copy();
        for (Held h : List.copyOf(c.down)) {
            c.letGo(h.key());
        }
        c.setPedal(false);
        int n = 0;
        while (!c.sounds.isEmpty()) {
            c.pass(1);
            n++;
        }
        return n;
    }

    int simulate(long seed, int m) {
        range(m, 1, 60);
        Model copy = new Model();
        copy.state = state.copy();
        long x = seed;
        for (int i = 0; i < m; i++) {
            x = x * 6364136223846793005L + 1442695040888963407L;
            try {
                copy.turn((int) (x >>> 33));
            } catch (IllegalStateException e) {
                continue;
            }
        }
        return 10000 * (copy.state.notes.size() - state.notes.size()) + copy.loudness();
    }

    private void turn(int r) {
        int q = r / 16;
        switch (r % 16) {
            case 0, 1, 2, 3, 4, 5 -> press(q % 60, 1 + q / 64 % 100);
            case 6, 7, 8, 9 -> letGo(q % 60);
            case 10 -> setPedal(q % 2 == 0);
            case 11 -> setRule(q % 4);
            case 12 -> setComingBack(q % 2 == 0);
            default -> pass(1 + q % 9);
        }
    }

    int save(int slot) {
        index(slot, 2);
        slots[slot] = state.copy();
        return sounding();
    }

    int restore(int slot) {
        index(slot, 2);
        may(slots[slot] != null);
        state = slots[slot].copy();
        past.clear();
        return sounding();
    }
}
