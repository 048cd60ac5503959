/** A synthesizer with 6 voices for 60 keys; ../shared/DOC.md tells what each call does. */
public final class StolenVoices {
    public static final int NONE = -1;

    private static final int VOICES = 6;
    private static final int KEYS = 60;
    private static final int SLOTS = 2;
    private static final int MOST_REMEMBERED = 14;

    private static final int FREE = 0;
    private static final int RISING = 1;
    private static final int FALLING = 2;
    private static final int STAYING = 3;
    private static final int DYING = 4;

    private static final int LOWEST = 0;
    private static final int DYING_OR_OLDEST = 2;
    private static final int DYING_OR_NONE = 3;

    private static final int FULL_LEVEL = 1000;
    private static final int FULL_STRENGTH = 100;
    private static final int LAST_CODE = 255;
    private static final int MOST_TICKS = 99;
    private static final int MOST_TICKS_AHEAD = 200;
    private static final int MOST_TURNS = 60;

    private static final int OWN_VOICE = 0;
    private static final int FREE_VOICE = 1;
    private static final int STOLEN_VOICE = 2;
    private static final int NO_VOICE = 3;
    private static final int ALREADY_DOWN = 4;

    private final Piece piece = new Piece();
    private final Synth synth = new Synth();
    private final Past past = new Past();
    private final Synth[] slots = new Synth[SLOTS];
    private final boolean[] slotUsed = new boolean[SLOTS];
    // What only would be is tried on these two, so that no call makes objects.
    private final Synth trial = new Synth();
    private final Voice trialVoice = new Voice();

    public StolenVoices() {
        for (int s = 0; s < SLOTS; s++) {
            slots[s] = new Synth();
        }
    }

    // ---- text

    public int append(int c) throws IllegalArgumentException, IllegalStateException {
        needRange(c, 0, LAST_CODE);
        if (piece.isFull()) {
            throw new IllegalStateException("the text is full");
        }
        return piece.add((char) c);
    }

    public int clearText() {
        return piece.makeEmpty();
    }

    public int errorPosition() {
        return piece.firstError();
    }

    public int load() throws IllegalStateException {
        if (piece.firstError() != NONE) {
            throw new IllegalStateException("the text is not a piece");
        }
        synth.makeNew();
        past.forgetAll();
        for (int s = 0; s < SLOTS; s++) {
            slotUsed[s] = false;
        }
        int leftOut = 0;
        int at = 1;
        for (int n = 0; n < Piece.MOST && at < piece.length; n++) {
            if (!playCommand(at)) {
                leftOut++;
            }
            at += piece.commandLength(at);
        }
        return leftOut;
    }

    /** Answers whether the command was done; otherwise it is left out. */
    private boolean playCommand(int at) {
        switch (piece.signAt(at)) {
            case 'p':
                return synth.strikeIfUp(piece.numberAt(at + 1, 2), piece.numberAt(at + 3, 3));
            case 'r':
                return synth.releaseIfDown(piece.numberAt(at + 1, 2));
            case 'd':
                synth.movePedal(true);
                return true;
            case 'u':
                synth.movePedal(false);
                return true;
            case 't':
                synth.run(piece.numberAt(at + 1, 2));
                return true;
            case 's':
                synth.stealingRule = piece.numberAt(at + 1, 1);
                return true;
            default:
                return false;
        }
    }

    // ---- voices

    public int phaseOf(int voice) throws IndexOutOfBoundsException {
        needVoice(voice);
        return synth.voices[voice].phase;
    }

    public int keyOf(int voice) throws IndexOutOfBoundsException {
        needVoice(voice);
        return synth.voices[voice].key;
    }

    public int levelOf(int voice) throws IndexOutOfBoundsException {
        needVoice(voice);
        return synth.voices[voice].level;
    }

    public boolean isKept(int voice) throws IndexOutOfBoundsException {
        needVoice(voice);
        return synth.isKeptByPedal(synth.voices[voice]);
    }

    public int sounding() {
        return synth.countSounding();
    }

    public int oldest() {
        return synth.oldestVoice(false);
    }

    public int loudnessByVoices() {
        return synth.loudness();
    }

    public int loudnessByPhases() {
        int sum = 0;
        for (int phase = RISING; phase <= DYING; phase++) {
            sum += synth.loudnessOfPhase(phase);
        }
        return sum;
    }

    // ---- keys, the pedal

    public boolean isDown(int key) throws IndexOutOfBoundsException {
        needKey(key);
        return synth.isHeld(key);
    }

    public int voiceOf(int key) throws IndexOutOfBoundsException {
        needKey(key);
        return synth.voiceWith(key);
    }

    public int keysDown() {
        return synth.countDown();
    }

    public int keysWaiting() {
        return synth.countWaiting();
    }

    public int nextBack() {
        return synth.latestWaiting();
    }

    public boolean isPedalDown() {
        return synth.pedalDown;
    }

    // ---- notes, settings

    public int notesByBeginning() {
        return synth.notesBegun;
    }

    public int notesByEnds() {
        return synth.notesEnded + synth.notesStolen + synth.countSounding();
    }

    public int stolen() {
        return synth.notesStolen;
    }

    public int refused() {
        return synth.notesRefused;
    }

    public int ticks() {
        return synth.ticksSoFar;
    }

    public int rule() {
        return synth.stealingRule;
    }

    // ---- actions

    public int press(int key, int strength)
            throws IndexOutOfBoundsException, IllegalArgumentException, IllegalStateException {
        needKey(key);
        needRange(strength, 1, FULL_STRENGTH);
        needUp(key);
        past.remember(synth);
        return synth.strike(key, strength);
    }

    public int letGo(int key) throws IndexOutOfBoundsException, IllegalStateException {
        needKey(key);
        if (!synth.isHeld(key)) {
            throw new IllegalStateException("the key is up");
        }
        past.remember(synth);
        return synth.release(key);
    }

    public int setPedal(boolean down) {
        past.remember(synth);
        return synth.movePedal(down);
    }

    public int setRising(int rise, int fall) throws IllegalArgumentException {
        needRange(rise, 1, FULL_LEVEL);
        needRange(fall, 1, FULL_LEVEL);
        past.remember(synth);
        int previous = synth.slopes.rise;
        synth.slopes.rise = rise;
        synth.slopes.fall = fall;
        return previous;
    }

    public int setStaying(int share, int dying) throws IllegalArgumentException {
        needRange(share, 0, 100);
        needRange(dying, 1, FULL_LEVEL);
        past.remember(synth);
        int previous = synth.slopes.share;
        synth.slopes.share = share;
        synth.slopes.dying = dying;
        return previous;
    }

    public int setRule(int rule) throws IllegalArgumentException {
        needRange(rule, LOWEST, DYING_OR_NONE);
        past.remember(synth);
        int previous = synth.stealingRule;
        synth.stealingRule = rule;
        return previous;
    }

    public int setComingBack(boolean on) {
        past.remember(synth);
        synth.comingBack = on;
        return synth.countWaiting();
    }

    public int pass(int ticks) throws IllegalArgumentException {
        needRange(ticks, 1, MOST_TICKS);
        past.remember(synth);
        return synth.run(ticks);
    }

    public int undo() throws IllegalStateException {
        if (past.count == 0) {
            throw new IllegalStateException("no state is remembered");
        }
        past.takeBack(synth);
        return past.count;
    }

    // ---- what would be

    public int voiceFor(int key) throws IndexOutOfBoundsException, IllegalStateException {
        needKey(key);
        needUp(key);
        int own = synth.voiceWith(key);
        if (own != NONE) {
            return own;
        }
        int free = synth.lowestFree();
        return free != NONE ? free : synth.voiceToSteal();
    }

    public int howFor(int key) throws IndexOutOfBoundsException {
        needKey(key);
        if (synth.isHeld(key)) {
            return ALREADY_DOWN;
        }
        if (synth.voiceWith(key) != NONE) {
            return OWN_VOICE;
        }
        if (synth.lowestFree() != NONE) {
            return FREE_VOICE;
        }
        return synth.voiceToSteal() != NONE ? STOLEN_VOICE : NO_VOICE;
    }

    public int victim() {
        return synth.lowestFree() != NONE ? NONE : synth.voiceToSteal();
    }

    public int freeByRunning(int voice) throws IndexOutOfBoundsException {
        needVoice(voice);
        if (synth.voices[voice].isFree()) {
            return 0;
        }
        trialVoice.copyFrom(synth.voices[voice]);
        trialVoice.phase = DYING;
        int count = 0;
        // Even the dying 1 silences the full level in so many ticks.
        for (int n = 0; n < FULL_LEVEL && !trialVoice.isFree(); n++) {
            trialVoice.move(synth.slopes);
            count++;
        }
        return count;
    }

    public int freeByReckoning(int voice) throws IndexOutOfBoundsException {
        needVoice(voice);
        return synth.ticksToDie(synth.voices[voice]);
    }

    public int loudestIn(int ticks) throws IllegalArgumentException {
        needRange(ticks, 1, MOST_TICKS_AHEAD);
        trial.copyFrom(synth);
        int loudest = 0;
        for (int n = 0; n < ticks; n++) {
            trial.tick();
            loudest = Math.max(loudest, trial.loudness());
        }
        return loudest;
    }

    public int quietIn() {
        int longest = 0;
        for (int v = 0; v < VOICES; v++) {
            longest = Math.max(longest, synth.ticksToDie(synth.voices[v]));
        }
        return longest;
    }

    // ---- a simulation

    public int simulate(long seed, int m) throws IllegalArgumentException {
        needRange(m, 1, MOST_TURNS);
        trial.copyFrom(synth);
        long x = seed;
        for (int turn = 0; turn < m; turn++) {
            x = x * 6364136223846793005L + 1442695040888963407L;
            takeTurn((int) (x >>> 33));
        }
        return 10000 * (trial.notesBegun - synth.notesBegun) + trial.loudness();
    }

    private void takeTurn(int r) {
        int q = r / 16;
        int kind = r % 16;
        if (kind <= 5) {
            trial.strikeIfUp(q % KEYS, 1 + q / 64 % 100);
        } else if (kind <= 9) {
            trial.releaseIfDown(q % KEYS);
        } else if (kind == 10) {
            trial.movePedal(q % 2 == 0);
        } else if (kind == 11) {
            trial.stealingRule = q % 4;
        } else if (kind == 12) {
            trial.comingBack = q % 2 == 0;
        } else {
            trial.run(1 + q % 9);
        }
    }

    // ---- save slots

    public int save(int slot) throws IndexOutOfBoundsException {
        needSlot(slot);
        slots[slot].copyFrom(synth);
        slotUsed[slot] = true;
        return synth.countSounding();
    }

    public int restore(int slot) throws IndexOutOfBoundsException, IllegalStateException {
        needSlot(slot);
        if (!slotUsed[slot]) {
            throw new IllegalStateException("nothing has been saved in the slot");
        }
        synth.copyFrom(slots[slot]);
        past.forgetAll();
        return synth.countSounding();
    }

    // ---- what calls need

    private static void needVoice(int voice) {
        if (voice < 0 || voice >= VOICES) {
            throw new IndexOutOfBoundsException("there is no such voice");
        }
    }

    private static void needKey(int key) {
        if (key < 0 || key >= KEYS) {
            throw new IndexOutOfBoundsException("there is no such key");
        }
    }

    private static void needSlot(int slot) {
        if (slot < 0 || slot >= SLOTS) {
            throw new IndexOutOfBoundsException("there is no such save slot");
        }
    }

    private static void needRange(int value, int least, int most) {
        if (value < least || value > most) {
            throw new IllegalArgumentException("an argument is out of its range");
        }
    }

    private void needUp(int key) {
        if (synth.isHeld(key)) {
            throw new IllegalStateException("the key is down");
        }
    }

    /** How levels rise, fall, stay and die away. */
    private static final class Slopes {
        int rise;
        int fall;
        int share;
        int dying;

        void makeNew() {
            rise = 200;
            fall = 100;
            share = 60;
            dying = 50;
        }

        void copyFrom(Slopes other) {
            rise = other.rise;
            fall = other.fall;
            share = other.share;
            dying = other.dying;
        }
    }

    private static final class Voice {
        int key = NONE;
        int phase = FREE;
        int strength;
        int level;
        // A greater number tells a later beginning.
        int began;

        boolean isFree() {
            return phase == FREE;
        }

        void makeFree() {
            key = NONE;
            phase = FREE;
            strength = 0;
            level = 0;
            began = 0;
        }

        void begin(int newKey, int newStrength, int when) {
            key = newKey;
            phase = RISING;
            strength = newStrength;
            level = 0;
            began = when;
        }

        void beginAnew(int newStrength, int when) {
            phase = RISING;
            strength = newStrength;
            began = when;
        }

        void copyFrom(Voice other) {
            key = other.key;
            phase = other.phase;
            strength = other.strength;
            level = other.level;
            began = other.began;
        }

        /** One tick; answers whether the voice became free by it. */
        boolean move(Slopes slopes) {
            switch (phase) {
                case RISING:
                    rise(slopes);
                    return false;
                case FALLING:
                    fall(slopes);
                    return false;
                case DYING:
                    return fade(slopes);
                default:
                    return false;
            }
        }

        private int peak() {
            return 10 * strength;
        }

        private void rise(Slopes slopes) {
            level = Math.min(level + slopes.rise, peak());
            if (level == peak()) {
                phase = FALLING;
            }
        }

        private void fall(Slopes slopes) {
            int rest = peak() * slopes.share / 100;
            level = Math.max(level - slopes.fall, rest);
            if (level == rest) {
                phase = STAYING;
            }
        }

        private boolean fade(Slopes slopes) {
            level -= slopes.dying;
            if (level > 0) {
                return false;
            }
            makeFree();
            return true;
        }
    }

    /** The state: everything but the text and the save slots. */
    private static final class Synth {
        final Voice[] voices = new Voice[VOICES];
        final Slopes slopes = new Slopes();
        // The strength of a key that is down; 0 if it is up.
        private final int[] held = new int[KEYS];
        private final int[] pressedWhen = new int[KEYS];
        // The greater number of two presses, or of two beginnings, tells the later one.
        private int lastEvent;
        boolean pedalDown;
        boolean comingBack;
        int stealingRule;
        int ticksSoFar;
        int notesBegun;
        int notesEnded;
        int notesStolen;
        int notesRefused;

        Synth() {
            for (int v = 0; v < VOICES; v++) {
                voices[v] = new Voice();
            }
            slopes.makeNew();
        }

        void makeNew() {
            for (int v = 0; v < VOICES; v++) {
                voices[v].makeFree();
            }
            slopes.makeNew();
            for (int k = 0; k < KEYS; k++) {
                held[k] = 0;
                pressedWhen[k] = 0;
            }
            lastEvent = 0;
            pedalDown = false;
            comingBack = false;
            stealingRule = LOWEST;
            ticksSoFar = 0;
            notesBegun = 0;
            notesEnded = 0;
            notesStolen = 0;
            notesRefused = 0;
        }

        void copyFrom(Synth other) {
            for (int v = 0; v < VOICES; v++) {
                voices[v].copyFrom(other.voices[v]);
            }
            slopes.copyFrom(other.slopes);
            for (int k = 0; k < KEYS; k++) {
                held[k] = other.held[k];
                pressedWhen[k] = other.pressedWhen[k];
            }
            lastEvent = other.lastEvent;
            pedalDown = other.pedalDown;
            comingBack = other.comingBack;
            stealingRule = other.stealingRule;
            ticksSoFar = other.ticksSoFar;
            notesBegun = other.notesBegun;
            notesEnded = other.notesEnded;
            notesStolen = other.notesStolen;
            notesRefused = other.notesRefused;
        }

        // ---- voices

        int countSounding() {
            int count = 0;
            for (int v = 0; v < VOICES; v++) {
                if (!voices[v].isFree()) {
                    count++;
                }
            }
            return count;
        }

        int loudness() {
            int sum = 0;
            for (int v = 0; v < VOICES; v++) {
                sum += voices[v].level;
            }
            return sum;
        }

        int loudnessOfPhase(int phase) {
            int sum = 0;
            for (int v = 0; v < VOICES; v++) {
                if (voices[v].phase == phase) {
                    sum += voices[v].level;
                }
            }
            return sum;
        }

        int voiceWith(int key) {
            for (int v = 0; v < VOICES; v++) {
                if (key != NONE && voices[v].key == key) {
                    return v;
                }
            }
            return NONE;
        }

        int lowestFree() {
            for (int v = 0; v < VOICES; v++) {
                if (voices[v].isFree()) {
                    return v;
                }
            }
            return NONE;
        }

        int oldestVoice(boolean onlyDying) {
            int best = NONE;
            int bestBegan = 0;
            for (int v = 0; v < VOICES; v++) {
                Voice voice = voices[v];
                boolean counts = onlyDying ? voice.phase == DYING : voice.phase != FREE;
                if (counts && (best == NONE || voice.began < bestBegan)) {
                    best = v;
                    bestBegan = voice.began;
                }
            }
            return best;
        }

        private int quietestVoice() {
            int best = 0;
            for (int v = 1; v < VOICES; v++) {
                int louder = voices[v].level - voices[best].level;
                if (louder < 0 || louder == 0 && voices[v].began < voices[best].began) {
                    best = v;
                }
            }
            return best;
        }

        /** The voice that the rule steals when no voice is free. */
        int voiceToSteal() {
            if (stealingRule == LOWEST) {
                return quietestVoice();
            }
            if (stealingRule == DYING_OR_OLDEST || stealingRule == DYING_OR_NONE) {
                int dying = oldestVoice(true);
                if (dying != NONE || stealingRule == DYING_OR_NONE) {
                    return dying;
                }
            }
            return oldestVoice(false);
        }

        boolean isKeptByPedal(Voice voice) {
            return !voice.isFree() && voice.phase != DYING && !isHeld(voice.key);
        }

        /** In how many ticks the voice is free, if it dies away from now on. */
        int ticksToDie(Voice voice) {
            if (voice.isFree() || slopes.dying <= 0) {
                return 0;
            }
            // A tick is needed to become free even at the level 0.
            return Math.max(1, (voice.level + slopes.dying - 1) / slopes.dying);
        }

        // ---- keys

        boolean isHeld(int key) {
            return key >= 0 && key < KEYS && held[key] > 0;
        }

        int countDown() {
            int count = 0;
            for (int k = 0; k < KEYS; k++) {
                if (held[k] > 0) {
                    count++;
                }
            }
            return count;
        }

        int countWaiting() {
            int count = 0;
            for (int k = 0; k < KEYS; k++) {
                if (held[k] > 0 && voiceWith(k) == NONE) {
                    count++;
                }
            }
            return count;
        }

        int latestWaiting() {
            int best = NONE;
            int bestWhen = 0;
            for (int k = 0; k < KEYS; k++) {
                if (held[k] > 0 && pressedWhen[k] > bestWhen && voiceWith(k) == NONE) {
                    best = k;
                    bestWhen = pressedWhen[k];
                }
            }
            return best;
        }

        // ---- changes

        boolean strikeIfUp(int key, int strength) {
            if (isHeld(key)) {
                return false;
            }
            strike(key, strength);
            return true;
        }

        boolean releaseIfDown(int key) {
            if (!isHeld(key)) {
                return false;
            }
            release(key);
            return true;
        }

        /** Answers the voice that the key gets. */
        int strike(int key, int strength) {
            if (key < 0 || key >= KEYS) {
                return NONE;
            }
            held[key] = strength;
            lastEvent++;
            pressedWhen[key] = lastEvent;
            int own = voiceWith(key);
            if (own != NONE) {
                voices[own].beginAnew(strength, lastEvent);
                return own;
            }
            int free = lowestFree();
            if (free != NONE) {
                beginNote(voices[free], key);
                return free;
            }
            return stealFor(key);
        }

        private int stealFor(int key) {
            int victim = voiceToSteal();
            if (victim == NONE) {
                notesRefused++;
                return NONE;
            }
            notesStolen++;
            beginNote(voices[victim], key);
            return victim;
        }

        private void beginNote(Voice voice, int key) {
            if (!isHeld(key)) {
                return;
            }
            notesBegun++;
            lastEvent++;
            voice.begin(key, held[key], lastEvent);
        }

        /** Answers the voice of the key. */
        int release(int key) {
            if (key < 0 || key >= KEYS) {
                return NONE;
            }
            held[key] = 0;
            int own = voiceWith(key);
            if (own != NONE && !pedalDown) {
                voices[own].phase = DYING;
            }
            return own;
        }

        /** Answers how many voices die away from now on by it. */
        int movePedal(boolean down) {
            pedalDown = down;
            if (down) {
                return 0;
            }
            int count = 0;
            for (int v = 0; v < VOICES; v++) {
                if (isKeptByPedal(voices[v])) {
                    voices[v].phase = DYING;
                    count++;
                }
            }
            return count;
        }

        /** Answers how many notes end in the ticks. */
        int run(int count) {
            int before = notesEnded;
            for (int n = 0; n < count && n < MOST_TICKS; n++) {
                tick();
            }
            return notesEnded - before;
        }

        void tick() {
            ticksSoFar++;
            for (int v = 0; v < VOICES; v++) {
                if (voices[v].move(slopes)) {
                    notesEnded++;
                }
            }
            if (comingBack) {
                bringKeysBack();
            }
        }

        private void bringKeysBack() {
            for (int n = 0; n < VOICES; n++) {
                int free = lowestFree();
                if (free == NONE) {
                    return;
                }
                int key = latestWaiting();
                if (key == NONE) {
                    return;
                }
                beginNote(voices[free], key);
            }
        }
    }

    /** The states that undo can go back to, in a ring. */
    private static final class Past {
        private final Synth[] ring = new Synth[MOST_REMEMBERED];
        // Where the next state goes in the ring.
        private int next;
        int count;

        Past() {
            for (int i = 0; i < MOST_REMEMBERED; i++) {
                ring[i] = new Synth();
            }
        }

        void forgetAll() {
            next = 0;
            count = 0;
        }

        void remember(Synth synth) {
            if (next >= MOST_REMEMBERED) {
                next = 0;
            }
            ring[next].copyFrom(synth);
            next++;
            count = Math.min(count + 1, MOST_REMEMBERED);
        }

        void takeBack(Synth synth) {
            if (count == 0) {
                return;
            }
            next = next > 0 ? next - 1 : MOST_REMEMBERED - 1;
            count--;
            synth.copyFrom(ring[next]);
        }
    }

    /** The text buffer, and what stands in it. */
    private static final class Piece {
        static final int MOST = 120;

        private final char[] signs = new char[MOST];
        int length;

        boolean isFull() {
            return length >= MOST;
        }

        /** Answers the new length. */
        int add(char sign) {
            if (length < MOST) {
                signs[length] = sign;
                length++;
            }
            return length;
        }

        /** Answers the previous length. */
        int makeEmpty() {
            int previous = length;
            length = 0;
            return previous;
        }

        /** The sign at a place; no sign of a piece, 0, behind the end. */
        char signAt(int at) {
            return at >= 0 && at < length && at < MOST ? signs[at] : (char) 0;
        }

        int firstError() {
            if (signAt(0) != 'V') {
                return 0;
            }
            int at = 1;
            for (int n = 0; n < MOST && at < length; n++) {
                int error = commandError(at);
                if (error != NONE) {
                    return error;
                }
                at += commandLength(at);
            }
            return NONE;
        }

        int commandLength(int at) {
            switch (signAt(at)) {
                case 'p':
                    return 6;
                case 'r':
                case 't':
                    return 3;
                case 's':
                    return 2;
                default:
                    return 1;
            }
        }

        private int commandError(int at) {
            switch (signAt(at)) {
                case 'p':
                    int error = numberError(at + 1, 2, 0, KEYS - 1);
                    return error != NONE ? error : numberError(at + 3, 3, 1, FULL_STRENGTH);
                case 'r':
                    return numberError(at + 1, 2, 0, KEYS - 1);
                case 't':
                    return numberError(at + 1, 2, 1, MOST_TICKS);
                case 's':
                    return numberError(at + 1, 1, LOWEST, DYING_OR_NONE);
                case 'd':
                case 'u':
                    return NONE;
                default:
                    return at;
            }
        }

        private int numberError(int from, int digits, int least, int most) {
            int low = 0;
            int span = 1;
            for (int i = 0; i < digits; i++) {
                span *= 10;
            }
            // The numbers that begin with the digits so far are low to low + span - 1.
            for (int at = from; at < from + digits; at++) {
                if (at >= length) {
                    return length;
                }
                int digit = signAt(at) - '0';
                if (digit < 0 || digit > 9) {
                    return at;
                }
                span /= 10;
                low += digit * span;
                if (low > most || low + span - 1 < least) {
                    return at;
                }
            }
            return NONE;
        }

        int numberAt(int from, int digits) {
            int number = 0;
            for (int at = from; at < from + digits; at++) {
                number = 10 * number + (signAt(at) - '0');
            }
            return number;
        }
    }
}
