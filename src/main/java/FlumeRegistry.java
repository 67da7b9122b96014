/** A registry of water models, the runs ahead of them, and the dams and valleys that rest on these. */
public final class FlumeRegistry {
    public static final int NONE = -1;
    public static final int STANDS = 0, MENDED = 1, RAINED = 2;
    public static final int RINGS = 0, RIGHT = 1, WRONG = 2, WITHDRAWN = 3;

    private static final int MODELS = 6, GAUGES = 3, DAMS = 3, LAST_HOUR = 200, HOURS = LAST_HOUR + 1;
    private static final int MOST_LETTERS = 40, MOST_VERSIONS = 60, MOST_RUNS = 40, MOST_SIRENS = 60;
    private static final int LONGEST_RUN = 48, LONGEST_PASS = 24, ALARM_HOURS = 24;
    private static final int MOST_MILLIMETRES = 500, MOST_CAPACITY = 100000;
    private static final int MOST_PEOPLE = 10000, MOST_DANGER = 100000, MOST_WALKING = 12;

    // Where the value of each name stands while a formula is worked out.
    private static final int RAIN_SLOT = 0, OUTPUT_SLOT = RAIN_SLOT + GAUGES;
    private static final int BEFORE_SLOT = OUTPUT_SLOT + MODELS, OWN_SLOT = BEFORE_SLOT + MODELS;
    private static final int HOUR_SLOT = OWN_SLOT + 1, LEVEL_SLOT = HOUR_SLOT + 1;
    private static final int INFLOW_SLOT = LEVEL_SLOT + 1, PEAK_SLOT = INFLOW_SLOT + 1, SLOTS = PEAK_SLOT + 1;

    // The kinds of a formula's parts; BRACKET is only held while a text is read.
    private static final int NUMBER = 0, NAME = 1, ADD = 2, SUBTRACT = 3, MULTIPLY = 4, DIVIDE = 5, NEGATE = 6;
    private static final int GREATER = 7, LESSER = 8, CHOICE = 9, WHOLE = 10, SIZE = 11, BRACKET = 12;

    // What a reader awaits or has behind it, between two letters.
    private static final int AT_FACTOR = 0, IN_FIGURES = 1, BEHIND_POINT = 2, BEHIND_TENTH = 3;
    private static final int AT_NAME_FIGURE = 4, AT_BRACKET = 5, BEHIND_FACTOR = 6;

    private final Draft draft = new Draft();
    private final Reader reader = new Reader();
    private final Shelf shelf = new Shelf();
    private final Run[] runs = new Run[MOST_RUNS];
    private final Run trial = new Run();
    private final Dam[] dams = new Dam[DAMS];
    private final Siren[] sirens = new Siren[MOST_SIRENS];
    private int runCount = 0;
    private int sirenCount = 0;
    private int now = 0;

    public FlumeRegistry() {
        for (int at = 0; at < runs.length; at++) {
            runs[at] = new Run();
        }
        for (int at = 0; at < dams.length; at++) {
            dams[at] = new Dam();
        }
        for (int at = 0; at < sirens.length; at++) {
            sirens[at] = new Siren();
        }
    }

    // ---- texts

    public int type(char letter) throws IllegalArgumentException, IllegalStateException {
        if (!Draft.mayHold(letter)) {
            throw new IllegalArgumentException("no letter of a text");
        }
        if (draft.isFull()) {
            throw new IllegalStateException("the text has all the letters that it may have");
        }
        return draft.add(letter);
    }

    public int wipe() {
        return draft.clear();
    }

    public int fault(boolean isRule) {
        return reader.read(draft, isRule);
    }

    // ---- versions

    public int publish(int model) throws IndexOutOfBoundsException, IllegalArgumentException, IllegalStateException {
        if (!isModel(model)) {
            throw new IndexOutOfBoundsException("no such model");
        }
        if (reader.read(draft, false) != NONE) {
            throw new IllegalArgumentException("the text is no model's text");
        }
        if (!shelf.mayTake(model, reader.formula)) {
            throw new IllegalStateException("the text can't rest on what it names, or there are too many versions");
        }
        return shelf.take(model, reader.formula);
    }

    public int retire(int model) throws IndexOutOfBoundsException, IllegalStateException {
        if (!isModel(model)) {
            throw new IndexOutOfBoundsException("no such model");
        }
        if (shelf.latestOf(model) == NONE || shelf.modelsOn(model) != 0) {
            throw new IllegalStateException("the model has no latest version, or another one rests on it");
        }
        return shelf.giveUp(model);
    }

    public int latest(int model) throws IndexOutOfBoundsException {
        if (!isModel(model)) {
            throw new IndexOutOfBoundsException("no such model");
        }
        return shelf.latestOf(model);
    }

    public int pin(int version, int model) throws IndexOutOfBoundsException {
        if (!shelf.has(version) || !isModel(model)) {
            throw new IndexOutOfBoundsException("no such version or model");
        }
        return shelf.pinOf(version, model);
    }

    // ---- rains and outputs

    public int rain(int gauge, int hour, int millimetres) throws IndexOutOfBoundsException, IllegalArgumentException {
        if (gauge < 0 || gauge >= GAUGES) {
            throw new IndexOutOfBoundsException("no such gauge");
        }
        if (!isHour(hour) || millimetres < 0 || millimetres > MOST_MILLIMETRES) {
            throw new IllegalArgumentException("the hour or the millimetres are out of range");
        }
        int before = shelf.tellRain(gauge, hour, millimetres);
        if (before != millimetres) {
            stampRuns(gauge, hour);
        }
        return before;
    }

    public int out(int version, int hour) throws IndexOutOfBoundsException, IllegalArgumentException {
        if (!shelf.has(version)) {
            throw new IndexOutOfBoundsException("no such version");
        }
        if (!isHour(hour)) {
            throw new IllegalArgumentException("the hour is out of range");
        }
        return bitsOf(shelf.outputOf(version, hour));
    }

    public int outAnew(int version, int hour) throws IndexOutOfBoundsException, IllegalArgumentException {
        if (!shelf.has(version)) {
            throw new IndexOutOfBoundsException("no such version");
        }
        if (!isHour(hour)) {
            throw new IllegalArgumentException("the hour is out of range");
        }
        shelf.forget(version);
        return bitsOf(shelf.outputOf(version, hour));
    }

    // ---- runs

    public int run(int model, int hours) throws IndexOutOfBoundsException, IllegalArgumentException, IllegalStateException {
        if (!isModel(model)) {
            throw new IndexOutOfBoundsException("no such model");
        }
        if (hours < 1 || hours > LONGEST_RUN) {
            throw new IllegalArgumentException("the hours are out of range");
        }
        int version = shelf.latestOf(model);
        if (version == NONE || now + hours > LAST_HOUR || runCount >= runs.length) {
            throw new IllegalStateException("no latest version, no such last hour, or too many runs");
        }
        runs[runCount].lookAhead(shelf, version, now, now + hours);
        runCount++;
        return runCount - 1;
    }

    public int why(int run) throws IndexOutOfBoundsException {
        if (!isRun(run)) {
            throw new IndexOutOfBoundsException("no such run");
        }
        return reasonAgainst(run);
    }

    public int peak(int run) throws IndexOutOfBoundsException {
        if (!isRun(run)) {
            throw new IndexOutOfBoundsException("no such run");
        }
        return bitsOf(runs[run].peak);
    }

    public int peakHour(int run) throws IndexOutOfBoundsException {
        if (!isRun(run)) {
            throw new IndexOutOfBoundsException("no such run");
        }
        return runs[run].peakHour;
    }

    public int peakAnew(int run) throws IndexOutOfBoundsException {
        if (!isRun(run)) {
            throw new IndexOutOfBoundsException("no such run");
        }
        Run found = runs[run];
        shelf.forget(found.version);
        trial.lookAhead(shelf, found.version, found.first, found.last);
        return bitsOf(trial.peak);
    }

    // ---- dams

    public void build(int dam, int model, int capacity) throws IndexOutOfBoundsException, IllegalArgumentException, IllegalStateException {
        if (!isDam(dam) || !isModel(model)) {
            throw new IndexOutOfBoundsException("no such dam or model");
        }
        if (capacity < 1 || capacity > MOST_CAPACITY) {
            throw new IllegalArgumentException("the capacity is out of range");
        }
        Dam there = dams[dam];
        if (there.isBuilt) {
            throw new IllegalStateException("the dam is built");
        }
        there.isBuilt = true;
        there.model = model;
        there.capacity = capacity;
    }

    public void rule(int dam) throws IndexOutOfBoundsException, IllegalArgumentException, IllegalStateException {
        if (!isDam(dam)) {
            throw new IndexOutOfBoundsException("no such dam");
        }
        if (reader.read(draft, true) != NONE) {
            throw new IllegalArgumentException("the text is no rule");
        }
        Dam there = dams[dam];
        if (!there.isBuilt) {
            throw new IllegalStateException("the dam is not built");
        }
        there.hasRule = true;
        there.formula.copy(reader.formula);
    }

    public void goBy(int dam, int run) throws IndexOutOfBoundsException, IllegalStateException {
        if (!isDam(dam) || !isRun(run)) {
            throw new IndexOutOfBoundsException("no such dam or run");
        }
        Dam there = dams[dam];
        if (!there.isBuilt || !isGoodFor(run, there)) {
            throw new IllegalStateException("the dam is not built, or the run is not good for it");
        }
        there.run = run;
    }

    public int level(int dam) throws IndexOutOfBoundsException {
        if (!isDam(dam)) {
            throw new IndexOutOfBoundsException("no such dam");
        }
        return bitsOf(dams[dam].level);
    }

    public int below(int dam, int hour) throws IndexOutOfBoundsException, IllegalArgumentException {
        if (!isDam(dam)) {
            throw new IndexOutOfBoundsException("no such dam");
        }
        if (!isHour(hour) || hour >= now) {
            throw new IllegalArgumentException("the hour has not passed");
        }
        return bitsOf(dams[dam].below[hour]);
    }

    // ---- valleys

    public void valley(int dam, int people, int danger, int hours) throws IndexOutOfBoundsException, IllegalArgumentException, IllegalStateException {
        if (!isDam(dam)) {
            throw new IndexOutOfBoundsException("no such dam");
        }
        if (people < 0 || people > MOST_PEOPLE || danger < 1 || danger > MOST_DANGER || hours < 0 || hours > MOST_WALKING) {
            throw new IllegalArgumentException("the people, the danger or the hours are out of range");
        }
        Dam there = dams[dam];
        if (!there.isBuilt) {
            throw new IllegalStateException("the dam is not built");
        }
        there.hasValley = true;
        there.people = people;
        there.danger = danger;
        there.walking = hours;
    }

    public int sound(int dam, int run) throws IndexOutOfBoundsException, IllegalStateException {
        if (!isDam(dam) || !isRun(run)) {
            throw new IndexOutOfBoundsException("no such dam or run");
        }
        if (!maySound(dam, run)) {
            throw new IllegalStateException("no valley, no run that is good for it, a siren that rings, or too many of them");
        }
        Dam there = dams[dam];
        Siren sounded = sirens[sirenCount];
        sounded.dam = dam;
        sounded.run = run;
        sounded.hour = now;
        sounded.walking = (int) ((float) there.people * there.trust);
        sounded.fate = RINGS;
        sirenCount++;
        return sirenCount - 1;
    }

    public int siren(int siren) throws IndexOutOfBoundsException {
        if (!isSiren(siren)) {
            throw new IndexOutOfBoundsException("no such siren");
        }
        return sirens[siren].fate;
    }

    public int walkers(int siren) throws IndexOutOfBoundsException {
        if (!isSiren(siren)) {
            throw new IndexOutOfBoundsException("no such siren");
        }
        return sirens[siren].walking;
    }

    public int trust(int dam) throws IndexOutOfBoundsException {
        if (!isDam(dam)) {
            throw new IndexOutOfBoundsException("no such dam");
        }
        return bitsOf(dams[dam].trust);
    }

    public int saved(int dam) throws IndexOutOfBoundsException {
        if (!isDam(dam)) {
            throw new IndexOutOfBoundsException("no such dam");
        }
        return dams[dam].saved;
    }

    public int alarm() {
        int last = Math.min(now + ALARM_HOURS, LAST_HOUR);
        int set = 0;
        for (int at = 0; at < dams.length; at++) {
            Dam dam = dams[at];
            int version = shelf.latestOf(dam.model);
            if (dam.hasValley && version != NONE) {
                trial.lookAhead(shelf, version, now, last);
                set |= trial.peak >= (float) dam.danger ? 1 << at : 0;
            }
        }
        return set;
    }

    // ---- hours

    public int pass(int hours) throws IllegalArgumentException, IllegalStateException {
        if (hours < 1 || hours > LONGEST_PASS) {
            throw new IllegalArgumentException("the hours are out of range");
        }
        if (now + hours > LAST_HOUR) {
            throw new IllegalStateException("there are not so many hours left");
        }
        for (int passed = 0; passed < hours; passed++) {
            for (int at = 0; at < dams.length; at++) {
                if (dams[at].isBuilt) {
                    passHourAt(dams[at]);
                }
            }
            for (int at = 0; at < sirenCount && at < sirens.length; at++) {
                if (sirens[at].fate == RINGS) {
                    judge(sirens[at]);
                }
            }
            now++;
        }
        return now;
    }

    // ---- what several calls need

    private static boolean isModel(int model) {
        return model >= 0 && model < MODELS;
    }

    private static boolean isHour(int hour) {
        return hour >= 0 && hour <= LAST_HOUR;
    }

    private boolean isDam(int dam) {
        return dam >= 0 && dam < dams.length;
    }

    private boolean isRun(int run) {
        return run >= 0 && run < runCount && run < runs.length;
    }

    private boolean isSiren(int siren) {
        return siren >= 0 && siren < sirenCount && siren < sirens.length;
    }

    private int reasonAgainst(int run) {
        if (!isRun(run) || !shelf.isLatest(runs[run].version)) {
            return MENDED;
        }
        return runs[run].isRained ? RAINED : STANDS;
    }

    private boolean isGoodFor(int run, Dam dam) {
        return isRun(run) && reasonAgainst(run) == STANDS && shelf.modelOf(runs[run].version) == dam.model;
    }

    /** Once another rain was told a run stays void, even if the rain is told back: so it is stamped. */
    private void stampRuns(int gauge, int hour) {
        for (int at = 0; at < runCount && at < runs.length; at++) {
            if (hour <= runs[at].last && shelf.names(runs[at].version, gauge)) {
                runs[at].isRained = true;
            }
        }
    }

    private boolean maySound(int dam, int run) {
        if (!isDam(dam) || !isRun(run) || sirenCount >= sirens.length) {
            return false;
        }
        for (int at = 0; at < sirenCount; at++) {
            if (sirens[at].dam == dam && sirens[at].fate == RINGS) {
                return false;
            }
        }
        Dam there = dams[dam];
        return there.hasValley && isGoodFor(run, there) && runs[run].peak >= (float) there.danger;
    }

    private void passHourAt(Dam dam) {
        int version = shelf.latestOf(dam.model);
        float output = version == NONE ? 0f : shelf.outputOf(version, now);
        float inflow = output < 0f ? 0f : output;
        float asked = 0f;
        if (dam.hasRule) {
            boolean stands = isRun(dam.run) && reasonAgainst(dam.run) == STANDS;
            float[] names = shelf.reckoner.names;
            names[LEVEL_SLOT] = dam.level;
            names[INFLOW_SLOT] = inflow;
            names[PEAK_SLOT] = stands ? runs[dam.run].peak : 0f;
            names[HOUR_SLOT] = (float) now;
            asked = shelf.reckoner.workOut(dam.formula);
        }
        dam.letThrough(now, inflow, asked);
    }

    private void judge(Siren siren) {
        if (!isDam(siren.dam) || !isRun(siren.run) || !isHour(now)) {
            return;
        }
        Dam dam = dams[siren.dam];
        if (reasonAgainst(siren.run) != STANDS) {
            siren.fate = WITHDRAWN;
            dam.trust = dam.trust * 0.9f;
        } else if (dam.below[now] >= (float) dam.danger) {
            siren.fate = RIGHT;
            float lacks = 1f - dam.trust;
            dam.trust = dam.trust + lacks * 0.5f;
            if (now - siren.hour >= dam.walking) {
                dam.saved += siren.walking;
            }
        } else if (now >= runs[siren.run].last) {
            siren.fate = WRONG;
            dam.trust = dam.trust * 0.75f;
        }
    }

    /** The bits of a float that is neither -0f, nor infinite, nor no number, from arithmetic alone. */
    private static int bitsOf(float number) {
        if (number == 0f) {
            return 0;
        }
        int sign = number < 0f ? 1 << 31 : 0;
        float size = number < 0f ? 0f - number : number;
        int exponent = 127;
        for (; size >= 2f && exponent < 254; exponent++) {
            size = size / 2f;
        }
        for (; size < 1f && exponent > 1; exponent--) {
            size = size * 2f;
        }
        int figures = (int) (size * 8388608f);
        // A size that is still below 1f is that of the smallest floats, whose bits hold no exponent.
        return sign | (size < 1f ? figures : (exponent << 23) + figures - 8388608);
    }

    /** The text as it is typed. */
    private static final class Draft {
        final char[] letters = new char[MOST_LETTERS];
        int length = 0;

        static boolean mayHold(char letter) {
            return letter >= 'a' && letter <= 'z' || letter >= '0' && letter <= '9' || "+-*/(),.".indexOf(letter) >= 0;
        }

        boolean isFull() {
            return length >= letters.length;
        }

        int add(char letter) {
            if (length >= 0 && length < letters.length) {
                letters[length] = letter;
                length++;
            }
            return length;
        }

        int clear() {
            int before = length;
            length = 0;
            return before;
        }
    }

    /** A text in the order in which it is worked out: the parts that an operation takes stand before it. */
    private static final class Formula {
        final int[] kinds = new int[MOST_LETTERS];
        final int[] values = new int[MOST_LETTERS];
        int length = 0;
        int models = 0;
        int gauges = 0;

        void clear() {
            length = 0;
            models = 0;
            gauges = 0;
        }

        void add(int kind, int value) {
            if (length >= 0 && length < kinds.length && length < values.length) {
                kinds[length] = kind;
                values[length] = value;
                length++;
            }
        }

        void addName(int slot) {
            add(NAME, slot);
            if (slot >= RAIN_SLOT && slot < OUTPUT_SLOT) {
                gauges |= 1 << (slot - RAIN_SLOT);
            } else if (slot >= OUTPUT_SLOT && slot < BEFORE_SLOT) {
                models |= 1 << (slot - OUTPUT_SLOT);
            } else if (slot >= BEFORE_SLOT && slot < OWN_SLOT) {
                models |= 1 << (slot - BEFORE_SLOT);
            }
        }

        void copy(Formula other) {
            for (int at = 0; at < MOST_LETTERS; at++) {
                kinds[at] = other.kinds[at];
                values[at] = other.values[at];
            }
            length = other.length;
            models = other.models;
            gauges = other.gauges;
        }
    }

    /** Reads a text letter by letter into a formula; operations and brackets are held until their parts have come. */
    private static final class Reader {
        final Formula formula = new Formula();
        private final int[] held = new int[MOST_LETTERS];
        private final int[] commas = new int[MOST_LETTERS];
        private int heldCount = 0;
        private int state = AT_FACTOR;
        private boolean isRule = false;
        private int number = 0;
        private int figures = 0;
        private int nameSlot = 0;
        private int nameFigures = 0;

        /** Returns the fault of a text; if there is none, the formula is that of the text. */
        int read(Draft text, boolean asRule) {
            formula.clear();
            heldCount = 0;
            state = AT_FACTOR;
            isRule = asRule;
            for (int at = 0; at < text.length && at < text.letters.length; at++) {
                if (!takes(text.letters[at])) {
                    return at;
                }
            }
            endNumber();
            settle(1);
            return state == BEHIND_FACTOR && heldCount == 0 ? NONE : text.length;
        }

        /** Goes one letter on; false if no text can have this letter here. */
        private boolean takes(char letter) {
            int figure = letter >= '0' && letter <= '9' ? letter - '0' : NONE;
            switch (state) {
                case AT_FACTOR:
                    return figure != NONE ? startsNumber(figure) : startsFactor(letter);
                case AT_BRACKET:
                    state = AT_FACTOR;
                    return letter == '(';
                case AT_NAME_FIGURE:
                    return figure != NONE && figure < nameFigures && endsName(nameSlot + figure);
                default:
                    return figure != NONE ? takesFigure(figure) : goesOn(letter);
            }
        }

        private boolean startsNumber(int figure) {
            number = figure;
            figures = 1;
            state = IN_FIGURES;
            return true;
        }

        private boolean startsFactor(char letter) {
            switch (letter) {
                case '-':
                    return hold(NEGATE, 0);
                case '(':
                    return hold(BRACKET, 0);
                case 'x':
                    return startsFunction(GREATER, 1);
                case 'n':
                    return startsFunction(LESSER, 1);
                case 'i':
                    return startsFunction(CHOICE, 2);
                case 't':
                    return startsFunction(WHOLE, 0);
                case 'a':
                    return startsFunction(SIZE, 0);
                case 'h':
                    return endsName(HOUR_SLOT);
                case 'p':
                    return !isRule && endsName(OWN_SLOT);
                case 'g':
                    return !isRule && startsName(RAIN_SLOT, GAUGES);
                case 'm':
                    return !isRule && startsName(OUTPUT_SLOT, MODELS);
                case 'q':
                    return !isRule && startsName(BEFORE_SLOT, MODELS);
                case 'l':
                    return isRule && endsName(LEVEL_SLOT);
                case 'f':
                    return isRule && endsName(INFLOW_SLOT);
                case 'r':
                    return isRule && endsName(PEAK_SLOT);
                default:
                    return false;
            }
        }

        private boolean startsFunction(int kind, int commasToCome) {
            state = AT_BRACKET;
            return hold(kind, commasToCome);
        }

        private boolean endsName(int slot) {
            formula.addName(slot);
            state = BEHIND_FACTOR;
            return true;
        }

        private boolean startsName(int slot, int figuresToTake) {
            nameSlot = slot;
            nameFigures = figuresToTake;
            state = AT_NAME_FIGURE;
            return true;
        }

        private boolean takesFigure(int figure) {
            boolean fits = state == IN_FIGURES && figures < 3 || state == BEHIND_POINT || state == BEHIND_TENTH;
            if (!fits) {
                return false;
            }
            number = number * 10 + figure;
            figures++;
            if (state == BEHIND_POINT) {
                state = BEHIND_TENTH;
            } else if (state == BEHIND_TENTH) {
                formula.add(NUMBER, number);
                state = BEHIND_FACTOR;
            }
            return true;
        }

        /** A number that could have more figures ends where another letter, or no letter, comes. */
        private void endNumber() {
            if (state == IN_FIGURES) {
                formula.add(NUMBER, number * 100);
                state = BEHIND_FACTOR;
            } else if (state == BEHIND_TENTH) {
                formula.add(NUMBER, number * 10);
                state = BEHIND_FACTOR;
            }
        }

        private boolean goesOn(char letter) {
            if (state == IN_FIGURES && letter == '.') {
                state = BEHIND_POINT;
                return true;
            }
            endNumber();
            if (state != BEHIND_FACTOR) {
                return false;
            }
            switch (letter) {
                case '+':
                    return operates(ADD, 1);
                case '-':
                    return operates(SUBTRACT, 1);
                case '*':
                    return operates(MULTIPLY, 2);
                case '/':
                    return operates(DIVIDE, 2);
                case ',':
                    return takesComma();
                case ')':
                    return takesBracket();
                default:
                    return false;
            }
        }

        private boolean operates(int kind, int strength) {
            settle(strength);
            state = AT_FACTOR;
            return hold(kind, 0);
        }

        private boolean takesComma() {
            settle(1);
            int top = heldCount - 1;
            if (top < 0 || top >= commas.length || commas[top] == 0) {
                return false;
            }
            commas[top]--;
            state = AT_FACTOR;
            return true;
        }

        private boolean takesBracket() {
            settle(1);
            int top = heldCount - 1;
            if (top < 0 || top >= commas.length || top >= held.length || commas[top] != 0) {
                return false;
            }
            heldCount = top;
            if (held[top] != BRACKET) {
                formula.add(held[top], 0);
            }
            return true;
        }

        private boolean hold(int kind, int commasToCome) {
            if (heldCount < 0 || heldCount >= held.length || heldCount >= commas.length) {
                return false;
            }
            held[heldCount] = kind;
            commas[heldCount] = commasToCome;
            heldCount++;
            return true;
        }

        /** Lets go the operations that bind as strongly or more, back to the bracket that is open. */
        private void settle(int strength) {
            for (; heldCount > 0 && heldCount <= held.length && strengthOf(held[heldCount - 1]) >= strength; heldCount--) {
                formula.add(held[heldCount - 1], 0);
            }
        }

        private static int strengthOf(int kind) {
            switch (kind) {
                case NEGATE:
                    return 3;
                case MULTIPLY:
                case DIVIDE:
                    return 2;
                case ADD:
                case SUBTRACT:
                    return 1;
                default:
                    return 0;
            }
        }
    }

    /** Works out formulas with the values that the names have. */
    private static final class Reckoner {
        final float[] names = new float[SLOTS];
        private final float[] stack = new float[MOST_LETTERS];
        private int height = 0;

        float workOut(Formula formula) {
            height = 0;
            for (int at = 0; at < formula.length && at < formula.kinds.length && at < formula.values.length; at++) {
                int kind = formula.kinds[at];
                int value = formula.values[at];
                if (kind == NUMBER) {
                    keep((float) value / 100f);
                } else if (kind == NAME) {
                    keep(value >= 0 && value < names.length ? names[value] : 0f);
                } else {
                    operate(kind);
                }
            }
            return take();
        }

        private void operate(int kind) {
            float last = take();
            switch (kind) {
                case NEGATE:
                    keep(0f - last);
                    break;
                case WHOLE:
                    keep((float) (int) last);
                    break;
                case SIZE:
                    keep(last < 0f ? 0f - last : last);
                    break;
                case CHOICE:
                    float middle = take();
                    keep(take() > 0f ? middle : last);
                    break;
                default:
                    keep(join(kind, take(), last));
                    break;
            }
        }

        private static float join(int kind, float left, float right) {
            switch (kind) {
                case ADD:
                    return left + right;
                case SUBTRACT:
                    return left - right;
                case MULTIPLY:
                    return left * right;
                case DIVIDE:
                    return right == 0f ? 0f : left / right;
                case GREATER:
                    return left >= right ? left : right;
                default:
                    return left <= right ? left : right;
            }
        }

        private void keep(float found) {
            float kept = found > 1000000000f ? 1000000000f : found < -1000000000f ? -1000000000f : found;
            if (height >= 0 && height < stack.length) {
                // -0f equals 0f, and is to be kept as 0f.
                stack[height] = kept == 0f ? 0f : kept;
                height++;
            }
        }

        private float take() {
            if (height < 1 || height > stack.length) {
                return 0f;
            }
            height--;
            return stack[height];
        }
    }

    /** A text of a model, with what it pins, and its outputs as far as they are kept. */
    private static final class Version {
        final Formula formula = new Formula();
        final int[] pins = new int[MODELS];
        final float[] outputs = new float[HOURS];
        int model = NONE;
        // The gauges that its text names, or one of those that it pins, and so on.
        int gauges = 0;
        // The set of itself, those that it pins, and so on: a bit for each number.
        long reach = 0L;
        int keptHours = 0;
    }

    /** All versions and rains, and the outputs that come of them. */
    private static final class Shelf {
        final Reckoner reckoner = new Reckoner();
        private final Version[] versions = new Version[MOST_VERSIONS];
        private final int[] newest = new int[MODELS];
        private final int[][] rains = new int[GAUGES][HOURS];
        private int count = 0;

        Shelf() {
            for (int at = 0; at < versions.length; at++) {
                versions[at] = new Version();
            }
            for (int model = 0; model < newest.length; model++) {
                newest[model] = NONE;
            }
        }

        boolean has(int version) {
            return version >= 0 && version < count && version < versions.length;
        }

        int latestOf(int model) {
            return model >= 0 && model < newest.length ? newest[model] : NONE;
        }

        boolean isLatest(int version) {
            return has(version) && latestOf(versions[version].model) == version;
        }

        int modelOf(int version) {
            return has(version) ? versions[version].model : NONE;
        }

        int pinOf(int version, int model) {
            return has(version) && isModel(model) ? versions[version].pins[model] : NONE;
        }

        boolean names(int version, int gauge) {
            return has(version) && (versions[version].gauges >> gauge & 1) != 0;
        }

        /** The set of the models on which a model rests, by the latest versions. */
        private int modelsUnder(int model) {
            int under = namedBy(model);
            // A chain of models is at most as long as there are models.
            for (int round = 0; round < MODELS; round++) {
                for (int other = 0; other < MODELS; other++) {
                    under |= (under >> other & 1) != 0 ? namedBy(other) : 0;
                }
            }
            return under;
        }

        private int namedBy(int model) {
            int version = latestOf(model);
            return has(version) ? versions[version].formula.models : 0;
        }

        /** The set of the models that rest on a model. */
        int modelsOn(int model) {
            int on = 0;
            for (int other = 0; other < MODELS; other++) {
                on |= (modelsUnder(other) >> model & 1) << other;
            }
            return on;
        }

        /** Whether a text may be a model's next one, with all the versions that are bound anew for it. */
        boolean mayTake(int model, Formula formula) {
            int on = modelsOn(model);
            if (((on | (1 << model)) & formula.models) != 0) {
                return false;
            }
            for (int other = 0; other < MODELS; other++) {
                if ((formula.models >> other & 1) != 0 && latestOf(other) == NONE) {
                    return false;
                }
            }
            return count + 1 + Integer.bitCount(on) <= MOST_VERSIONS;
        }

        int take(int model, Formula formula) {
            int taken = shelve(model, formula);
            int next = nextToBind();
            // Each model is bound anew at most once, as it comes behind all on which it rests.
            for (int round = 0; round < MODELS && has(next); round++) {
                Version old = versions[next];
                shelve(old.model, old.formula);
                next = nextToBind();
            }
            return taken;
        }

        private int shelve(int model, Formula formula) {
            if (count < 0 || count >= versions.length || !isModel(model)) {
                return NONE;
            }
            Version added = versions[count];
            added.model = model;
            added.formula.copy(formula);
            added.gauges = formula.gauges;
            added.reach = 1L << count;
            for (int other = 0; other < MODELS; other++) {
                int pinned = (formula.models >> other & 1) != 0 ? latestOf(other) : NONE;
                added.pins[other] = pinned;
                if (has(pinned)) {
                    added.gauges |= versions[pinned].gauges;
                    added.reach |= versions[pinned].reach;
                }
            }
            newest[model] = count;
            count++;
            return count - 1;
        }

        /** The latest version of the lowest model that is to be bound anew and rests on no other such one. */
        private int nextToBind() {
            int stale = 0;
            for (int model = 0; model < MODELS; model++) {
                stale |= pinsOld(latestOf(model)) ? 1 << model : 0;
            }
            for (int model = 0; model < MODELS; model++) {
                if ((stale >> model & 1) != 0 && (modelsUnder(model) & stale) == 0) {
                    return latestOf(model);
                }
            }
            return NONE;
        }

        private boolean pinsOld(int version) {
            for (int model = 0; model < MODELS; model++) {
                int pinned = pinOf(version, model);
                if (pinned != NONE && pinned != latestOf(model)) {
                    return true;
                }
            }
            return false;
        }

        int giveUp(int model) {
            int before = latestOf(model);
            if (isModel(model)) {
                newest[model] = NONE;
            }
            return before;
        }

        int tellRain(int gauge, int hour, int millimetres) {
            if (gauge < 0 || gauge >= GAUGES || !isHour(hour)) {
                return 0;
            }
            int before = rains[gauge][hour];
            rains[gauge][hour] = millimetres;
            for (int at = 0; at < count && at < versions.length && before != millimetres; at++) {
                Version version = versions[at];
                // What was found for earlier hours can't hang on this rain.
                if ((version.gauges >> gauge & 1) != 0 && version.keptHours > hour) {
                    version.keptHours = hour;
                }
            }
            return before;
        }

        /** Forgets all outputs that are kept of a version and of those that it pins, and so on. */
        void forget(int version) {
            if (!has(version)) {
                return;
            }
            for (int at = 0; at <= version; at++) {
                if ((versions[version].reach >> at & 1L) != 0L) {
                    versions[at].keptHours = 0;
                }
            }
        }

        float outputOf(int version, int hour) {
            if (!has(version) || !isHour(hour)) {
                return 0f;
            }
            // A version pins only those with lower numbers: so by rising numbers nothing is found too early.
            for (int at = 0; at <= version; at++) {
                if ((versions[version].reach >> at & 1L) != 0L) {
                    fill(versions[at], hour);
                }
            }
            return versions[version].outputs[hour];
        }

        private void fill(Version version, int last) {
            float[] names = reckoner.names;
            for (int hour = version.keptHours; hour >= 0 && hour <= last && hour < HOURS; hour++) {
                for (int gauge = 0; gauge < GAUGES; gauge++) {
                    names[RAIN_SLOT + gauge] = (float) rains[gauge][hour];
                }
                for (int model = 0; model < MODELS; model++) {
                    int pinned = version.pins[model];
                    boolean isPinned = has(pinned);
                    names[OUTPUT_SLOT + model] = isPinned ? versions[pinned].outputs[hour] : 0f;
                    names[BEFORE_SLOT + model] = isPinned && hour > 0 ? versions[pinned].outputs[hour - 1] : 0f;
                }
                names[OWN_SLOT] = hour > 0 ? version.outputs[hour - 1] : 0f;
                names[HOUR_SLOT] = (float) hour;
                version.outputs[hour] = reckoner.workOut(version.formula);
                version.keptHours = hour + 1;
            }
        }
    }

    /** A look ahead with a version, as it was found. */
    private static final class Run {
        int version = NONE;
        int first = 0;
        int last = 0;
        float peak = 0f;
        int peakHour = 0;
        boolean isRained = false;

        void lookAhead(Shelf shelf, int ofVersion, int firstHour, int lastHour) {
            version = ofVersion;
            first = firstHour;
            last = lastHour;
            isRained = false;
            peak = shelf.outputOf(version, first);
            peakHour = first;
            for (int hour = first + 1; hour <= last; hour++) {
                float output = shelf.outputOf(version, hour);
                if (output > peak) {
                    peak = output;
                    peakHour = hour;
                }
            }
        }
    }

    /** A dam, and the valley below it. */
    private static final class Dam {
        final Formula formula = new Formula();
        final float[] below = new float[HOURS];
        boolean isBuilt = false;
        int model = NONE;
        int capacity = 0;
        float level = 0f;
        boolean hasRule = false;
        int run = NONE;
        boolean hasValley = false;
        int people = 0;
        int danger = 0;
        int walking = 0;
        float trust = 1f;
        int saved = 0;

        void letThrough(int hour, float inflow, float asked) {
            float has = level + inflow;
            float flows = asked < 0f ? 0f : asked > has ? has : asked;
            float left = has - flows;
            float spills = left > (float) capacity ? left - (float) capacity : 0f;
            level = left - spills;
            if (isHour(hour)) {
                below[hour] = flows + spills;
            }
        }
    }

    /** A siren, and what became of it. */
    private static final class Siren {
        int dam = NONE;
        int run = NONE;
        int hour = 0;
        int walking = 0;
        int fate = RINGS;
    }
}
