import java.util.ArrayList;
import java.util.HashMap;
import java.util.List;
import java.util.Map;
import java.util.Random;

/**
 * Walks of calls, the same each time, on the program and on a slow registry that reads its texts as they stand,
 * keeps no outputs, and finds each answer anew from the document's words.
 */
public final class FlumeRegistryWalks {
    private static final int WALKS = 400;
    private static final int CALLS = 512;
    private static final int NONE = -1;
    private static final int INDEX = 1, ARGUMENT = 2, STATE = 3;

    private interface Call {
        int make();
    }

    private static final class TooShort extends RuntimeException {
        private static final long serialVersionUID = 1L;
    }

    private static final class Refused extends RuntimeException {
        private static final long serialVersionUID = 1L;
        final int kind;

        Refused(int kind) {
            this.kind = kind;
        }
    }

    private static void demand(boolean holds, int kind) {
        if (!holds) {
            throw new Refused(kind);
        }
    }

    /** Follows a text by the grammar; at a place where it can't go on it stops with the fault set. */
    private static final class Grammar {
        final String text;
        final boolean isRule;
        int place = 0;

        Grammar(String text, boolean isRule) {
            this.text = text;
            this.isRule = isRule;
        }

        int fault() {
            try {
                expression();
                return place == text.length() ? NONE : place;
            } catch (TooShort e) {
                return text.length();
            } catch (Refused e) {
                return place;
            }
        }

        private char here() {
            if (place == text.length()) {
                throw new TooShort();
            }
            return text.charAt(place);
        }

        private boolean comes(String letters) {
            return place < text.length() && letters.indexOf(text.charAt(place)) >= 0;
        }

        private void must(String letters) {
            here();
            demand(comes(letters), ARGUMENT);
            place++;
        }

        private void expression() {
            term();
            while (comes("+-")) {
                place++;
                term();
            }
        }

        private void term() {
            factor();
            while (comes("*/")) {
                place++;
                factor();
            }
        }

        private void factor() {
            char first = here();
            if (Character.isDigit(first)) {
                place++;
                for (int more = 0; more < 2 && comes("0123456789"); more++) {
                    place++;
                }
                if (comes(".")) {
                    place++;
                    must("0123456789");
                    if (comes("0123456789")) {
                        place++;
                    }
                }
            } else if (first == '-') {
                place++;
                factor();
            } else if (first == '(') {
                place++;
                expression();
                must(")");
            } else if ("xnita".indexOf(first) >= 0) {
                place++;
                must("(");
                for (int part = 1; part <= parts(first); part++) {
                    expression();
                    must(part < parts(first) ? "," : ")");
                }
            } else if (!isRule && "gmq".indexOf(first) >= 0) {
                place++;
                must(first == 'g' ? "012" : "012345");
            } else {
                must(isRule ? "lfrh" : "ph");
            }
        }
    }

    private static int parts(char function) {
        return function == 'i' ? 3 : function == 't' || function == 'a' ? 1 : 2;
    }

    private static float kept(float x) {
        return Math.max(-1000000000f, Math.min(1000000000f, x)) + 0f;
    }

    private interface Names {
        float of(String name);
    }

    /** Works a text out by looking for the operation that comes last. */
    private static float workOut(String text, Names names) {
        for (String signs : new String[] {"+-", "*/"}) {
            int depth = 0;
            for (int at = text.length() - 1; at > 0; at--) {
                char letter = text.charAt(at);
                depth += letter == ')' ? 1 : letter == '(' ? -1 : 0;
                boolean isBinary = "+-*/(,".indexOf(text.charAt(at - 1)) < 0;
                if (depth == 0 && isBinary && signs.indexOf(letter) >= 0) {
                    float a = workOut(text.substring(0, at), names);
                    float b = workOut(text.substring(at + 1), names);
                    return kept(letter == '+' ? a + b : letter == '-' ? a - b : letter == '*' ? a * b : b == 0f ? 0f : a / b);
                }
            }
        }
        char first = text.charAt(0);
        if (first == '-') {
            return kept(-workOut(text.substring(1), names));
        }
        if (Character.isDigit(first)) {
            String[] parts = (text + (text.contains(".") ? "" : ".") + "00").split("\\.");
            return kept((float) Integer.parseInt(parts[0] + parts[1].substring(0, 2)) / 100f);
        }
        if (!text.endsWith(")")) {
            return kept(names.of(text));
        }
        List<Float> of = new ArrayList<>();
        int depth = 0;
        int from = first == '(' ? 1 : 2;
        for (int at = from; at < text.length(); at++) {
            char letter = text.charAt(at);
            if (depth == 0 && (letter == ',' || at == text.length() - 1)) {
                of.add(workOut(text.substring(from, at), names));
                from = at + 1;
            }
            depth += letter == '(' ? 1 : letter == ')' ? -1 : 0;
        }
        switch (first) {
            case 'x':
                return kept(Math.max(of.get(0), of.get(1)));
            case 'n':
                return kept(Math.min(of.get(0), of.get(1)));
            case 'i':
                return kept(of.get(0) > 0f ? of.get(1) : of.get(2));
            case 't':
                return kept((float) (int) (float) of.get(0));
            case 'a':
                return kept(Math.abs(of.get(0)));
            default:
                return of.get(0);
        }
    }

    private static final class Slow {
        private static final class Version {
            int model;
            String text;
            final int[] pins = {NONE, NONE, NONE, NONE, NONE, NONE};
        }

        private static final class Run {
            int version, first, last, peakHour;
            float peak;
            boolean rained;
        }

        private static final class Dam {
            boolean built, hasValley;
            int model, capacity, run = NONE, people, danger, walking, saved;
            float level = 0f, trust = 1f;
            String rule;
            final float[] below = new float[201];
        }

        private static final class Siren {
            int dam, run, hour, walkers, fate;
        }

        String text = "";
        final List<Version> versions = new ArrayList<>();
        final int[] latest = {NONE, NONE, NONE, NONE, NONE, NONE};
        final int[][] rains = new int[3][201];
        final List<Run> runs = new ArrayList<>();
        final Dam[] dams = {new Dam(), new Dam(), new Dam()};
        final List<Siren> sirens = new ArrayList<>();
        int now = 0;

        private static void number(int number, int count) {
            demand(number >= 0 && number < count, INDEX);
        }

        private static void range(int value, int least, int most) {
            demand(value >= least && value <= most, ARGUMENT);
        }

        int type(char letter) {
            demand("abcdefghijklmnopqrstuvwxyz0123456789+-*/(),.".indexOf(letter) >= 0, ARGUMENT);
            demand(text.length() < 40, STATE);
            text = text + letter;
            return text.length();
        }

        int wipe() {
            int before = text.length();
            text = "";
            return before;
        }

        int fault(boolean isRule) {
            return new Grammar(text, isRule).fault();
        }

        private static boolean names(String text, int model) {
            return text.contains("m" + model) || text.contains("q" + model);
        }

        private boolean restsOn(int upper, int lower) {
            if (latest[upper] == NONE) {
                return false;
            }
            for (int between = 0; between < 6; between++) {
                if (names(versions.get(latest[upper]).text, between) && (between == lower || restsOn(between, lower))) {
                    return true;
                }
            }
            return false;
        }

        private void add(int model, String itsText) {
            Version added = new Version();
            added.model = model;
            added.text = itsText;
            for (int other = 0; other < 6; other++) {
                added.pins[other] = names(itsText, other) ? latest[other] : NONE;
            }
            versions.add(added);
            latest[model] = versions.size() - 1;
        }

        private List<Integer> stale() {
            List<Integer> found = new ArrayList<>();
            for (int model = 0; model < 6; model++) {
                boolean is = false;
                for (int other = 0; other < 6 && latest[model] != NONE; other++) {
                    int pinned = versions.get(latest[model]).pins[other];
                    is |= pinned != NONE && pinned != latest[other];
                }
                if (is) {
                    found.add(model);
                }
            }
            return found;
        }

        int publish(int model) {
            number(model, 6);
            demand(new Grammar(text, false).fault() == NONE, ARGUMENT);
            int more = 1;
            for (int other = 0; other < 6; other++) {
                if (names(text, other)) {
                    demand(other != model && latest[other] != NONE && !restsOn(other, model), STATE);
                }
                more += other != model && restsOn(other, model) ? 1 : 0;
            }
            demand(versions.size() + more <= 60, STATE);
            int number = versions.size();
            add(model, text);
            for (List<Integer> stale = stale(); !stale.isEmpty(); stale = stale()) {
                for (int lowest : stale) {
                    boolean isFree = true;
                    for (int other : stale) {
                        isFree &= other == lowest || !restsOn(lowest, other);
                    }
                    if (isFree) {
                        add(lowest, versions.get(latest[lowest]).text);
                        break;
                    }
                }
            }
            if (versions.size() != number + more) {
                throw new AssertionError("bound anew more or less often than counted");
            }
            return number;
        }

        int retire(int model) {
            number(model, 6);
            demand(latest[model] != NONE, STATE);
            for (int other = 0; other < 6; other++) {
                demand(!restsOn(other, model), STATE);
            }
            int before = latest[model];
            latest[model] = NONE;
            return before;
        }

        int latest(int model) {
            number(model, 6);
            return latest[model];
        }

        int pin(int version, int model) {
            number(version, versions.size());
            number(model, 6);
            return versions.get(version).pins[model];
        }

        private boolean namesGauge(int version, int gauge) {
            boolean is = versions.get(version).text.contains("g" + gauge);
            for (int pinned : versions.get(version).pins) {
                is |= pinned != NONE && namesGauge(pinned, gauge);
            }
            return is;
        }

        int rain(int gauge, int hour, int millimetres) {
            number(gauge, 3);
            range(hour, 0, 200);
            range(millimetres, 0, 500);
            int before = rains[gauge][hour];
            rains[gauge][hour] = millimetres;
            for (Run run : runs) {
                run.rained |= before != millimetres && hour <= run.last && namesGauge(run.version, gauge);
            }
            return before;
        }

        private float output(int version, int hour, Map<Integer, Float> found) {
            if (hour < 0) {
                return 0f;
            }
            int key = version * 1000 + hour;
            if (!found.containsKey(key)) {
                Version of = versions.get(version);
                found.put(key, workOut(of.text, name -> {
                    int figure = name.length() > 1 ? name.charAt(1) - '0' : 0;
                    switch (name.charAt(0)) {
                        case 'g':
                            return rains[figure][hour];
                        case 'm':
                            return output(of.pins[figure], hour, found);
                        case 'q':
                            return output(of.pins[figure], hour - 1, found);
                        case 'p':
                            return output(version, hour - 1, found);
                        default:
                            return hour;
                    }
                }));
            }
            return found.get(key);
        }

        int out(int version, int hour) {
            number(version, versions.size());
            range(hour, 0, 200);
            return Float.floatToIntBits(output(version, hour, new HashMap<>()));
        }

        private Run lookAhead(int version, int first, int last) {
            Run run = new Run();
            run.version = version;
            run.first = first;
            run.last = last;
            run.peak = Float.NEGATIVE_INFINITY;
            Map<Integer, Float> found = new HashMap<>();
            for (int hour = first; hour <= last; hour++) {
                if (output(version, hour, found) > run.peak) {
                    run.peak = output(version, hour, found);
                    run.peakHour = hour;
                }
            }
            return run;
        }

        int run(int model, int hours) {
            number(model, 6);
            range(hours, 1, 48);
            demand(latest[model] != NONE && now + hours <= 200 && runs.size() < 40, STATE);
            runs.add(lookAhead(latest[model], now, now + hours));
            return runs.size() - 1;
        }

        int why(int run) {
            number(run, runs.size());
            int version = runs.get(run).version;
            return latest[versions.get(version).model] != version ? 1 : runs.get(run).rained ? 2 : 0;
        }

        int peak(int run) {
            number(run, runs.size());
            return Float.floatToIntBits(runs.get(run).peak);
        }

        int peakHour(int run) {
            number(run, runs.size());
            return runs.get(run).peakHour;
        }

        int peakAnew(int run) {
            number(run, runs.size());
            Run of = runs.get(run);
            return Float.floatToIntBits(lookAhead(of.version, of.first, of.last).peak);
        }

        int build(int dam, int model, int capacity) {
            number(dam, 3);
            number(model, 6);
            range(capacity, 1, 100000);
            demand(!dams[dam].built, STATE);
            dams[dam].built = true;
            dams[dam].model = model;
            dams[dam].capacity = capacity;
            return 0;
        }

        int rule(int dam) {
            number(dam, 3);
            demand(new Grammar(text, true).fault() == NONE, ARGUMENT);
            demand(dams[dam].built, STATE);
            dams[dam].rule = text;
            return 0;
        }

        int goBy(int dam, int run) {
            number(dam, 3);
            number(run, runs.size());
            demand(dams[dam].built && why(run) == 0, STATE);
            demand(versions.get(runs.get(run).version).model == dams[dam].model, STATE);
            dams[dam].run = run;
            return 0;
        }

        int level(int dam) {
            number(dam, 3);
            return Float.floatToIntBits(dams[dam].level);
        }

        int below(int dam, int hour) {
            number(dam, 3);
            range(hour, 0, now - 1);
            return Float.floatToIntBits(dams[dam].below[hour]);
        }

        int valley(int dam, int people, int danger, int hours) {
            number(dam, 3);
            range(people, 0, 10000);
            range(danger, 1, 100000);
            range(hours, 0, 12);
            demand(dams[dam].built, STATE);
            dams[dam].hasValley = true;
            dams[dam].people = people;
            dams[dam].danger = danger;
            dams[dam].walking = hours;
            return 0;
        }

        int sound(int dam, int run) {
            number(dam, 3);
            number(run, runs.size());
            Dam at = dams[dam];
            demand(at.hasValley && why(run) == 0 && sirens.size() < 60, STATE);
            demand(versions.get(runs.get(run).version).model == at.model && runs.get(run).peak >= at.danger, STATE);
            for (Siren siren : sirens) {
                demand(siren.dam != dam || siren.fate != 0, STATE);
            }
            Siren siren = new Siren();
            siren.dam = dam;
            siren.run = run;
            siren.hour = now;
            siren.walkers = (int) ((float) at.people * at.trust);
            sirens.add(siren);
            return sirens.size() - 1;
        }

        int siren(int siren) {
            number(siren, sirens.size());
            return sirens.get(siren).fate;
        }

        int walkers(int siren) {
            number(siren, sirens.size());
            return sirens.get(siren).walkers;
        }

        int trust(int dam) {
            number(dam, 3);
            return Float.floatToIntBits(dams[dam].trust);
        }

        int saved(int dam) {
            number(dam, 3);
            return dams[dam].saved;
        }

        int alarm() {
            int set = 0;
            for (int dam = 0; dam < 3; dam++) {
                if (dams[dam].hasValley && latest[dams[dam].model] != NONE) {
                    Run ahead = lookAhead(latest[dams[dam].model], now, Math.min(200, now + 24));
                    set |= ahead.peak < dams[dam].danger ? 0 : 1 << dam;
                }
            }
            return set;
        }

        int pass(int hours) {
            range(hours, 1, 24);
            demand(now + hours <= 200, STATE);
            for (int hour = 0; hour < hours; hour++) {
                for (Dam dam : dams) {
                    if (dam.built) {
                        flow(dam);
                    }
                }
                for (int siren = 0; siren < sirens.size(); siren++) {
                    if (sirens.get(siren).fate == 0) {
                        judge(sirens.get(siren), dams[sirens.get(siren).dam]);
                    }
                }
                now++;
            }
            return now;
        }

        private void flow(Dam dam) {
            int version = latest[dam.model];
            float inflow = version == NONE ? 0f : Math.max(0f, output(version, now, new HashMap<>()));
            float peak = dam.run == NONE || why(dam.run) != 0 ? 0f : runs.get(dam.run).peak;
            float asked = dam.rule == null ? 0f : workOut(dam.rule,
                name -> name.equals("l") ? dam.level : name.equals("f") ? inflow : name.equals("r") ? peak : (float) now);
            float has = dam.level + inflow;
            float flows = Math.min(has, Math.max(0f, asked));
            float left = has - flows;
            float spills = Math.max(0f, left - dam.capacity);
            dam.level = left - spills;
            dam.below[now] = flows + spills;
        }

        private void judge(Siren siren, Dam dam) {
            if (why(siren.run) != 0) {
                siren.fate = 3;
                dam.trust *= 0.9f;
            } else if (dam.below[now] >= dam.danger) {
                siren.fate = 1;
                float lacks = 1f - dam.trust;
                dam.trust += lacks * 0.5f;
                dam.saved += siren.hour + dam.walking <= now ? siren.walkers : 0;
            } else if (now >= runs.get(siren.run).last) {
                siren.fate = 2;
                dam.trust *= 0.75f;
            }
        }
    }

    private final FlumeRegistry quick = new FlumeRegistry();
    private final Slow slow = new Slow();
    private final Random random;
    private final StringBuilder told = new StringBuilder();
    private static final Map<String, Integer> seen = new HashMap<>();
    private static final int[] fates = new int[4];
    private final boolean isPrepared;
    private int calls = 0;

    private FlumeRegistryWalks(long seed) {
        random = new Random(seed);
        isPrepared = seed % 3 != 0;
    }

    private static String answer(Call call) {
        try {
            return String.valueOf(call.make());
        } catch (Refused e) {
            return e.kind == INDEX ? "IndexOutOfBoundsException" : e.kind == ARGUMENT ? "IllegalArgumentException" : "IllegalStateException";
        } catch (RuntimeException e) {
            return e.getClass().getSimpleName();
        }
    }

    /** Makes a call on both, but none beyond those that are promised; false if they answer otherwise. */
    private boolean both(String call, Call onQuick, Call onSlow) {
        if (calls == CALLS) {
            return true;
        }
        calls++;
        String got = answer(onQuick);
        String want = answer(onSlow);
        told.append(call).append(" = ").append(got).append('\n');
        String kind = call.substring(0, call.indexOf('(')) + (got.endsWith("Exception") ? " " + got : "");
        seen.merge(kind, 1, Integer::sum);
        if (!got.equals(want)) {
            System.out.println(told + "due is " + want);
        }
        return got.equals(want);
    }

    private int below(int bound) {
        return random.nextInt(bound);
    }

    /** Mostly 0 to count - 1, at times a number beside it. */
    private int about(int count) {
        return below(60) == 0 ? below(2) == 0 ? -1 : count : count == 0 ? below(2) : below(count);
    }

    private int newest(int count) {
        return below(3) > 0 && count > 0 ? count - 1 : about(count);
    }

    private String text(int depth, boolean isRule) {
        switch (below(depth > 2 ? 4 : 11)) {
            case 0:
                return below(2) == 0 ? String.valueOf(below(120)) : below(30) + "." + below(100);
            case 1:
            case 2:
            case 3:
                if (isRule) {
                    return String.valueOf("lfrh".charAt(below(4)));
                }
                switch (below(6)) {
                    case 0:
                        return "p";
                    case 1:
                        return below(3) == 0 ? "h" : "p*0.5";
                    case 2:
                        return "m" + below(6);
                    case 3:
                        return "q" + below(6);
                    default:
                        return "g" + below(3);
                }
            case 4:
            case 5:
            case 6:
                return text(depth + 1, isRule) + "+*-/+*".charAt(below(6)) + text(depth + 1, isRule);
            case 7:
                return below(2) == 0 ? "-" + text(depth + 1, isRule) : "(" + text(depth + 1, isRule) + ")";
            case 8:
                return "xn".charAt(below(2)) + "(" + text(depth + 1, isRule) + "," + text(depth + 1, isRule) + ")";
            case 9:
                return "i(" + text(depth + 1, isRule) + "," + text(depth + 1, isRule) + "," + text(depth + 1, isRule) + ")";
            default:
                return "ta".charAt(below(2)) + "(" + text(depth + 1, isRule) + ")";
        }
    }

    private boolean write(boolean isRule) {
        String text = text(below(3), isRule);
        if (text.length() > 12 && below(4) > 0) {
            text = isRule ? new String[] {"l/2", "l+f", "r-l", "x(f,9)"}[below(4)] : new String[] {"g0*9", "g1+p", "m0+g2", "q0*2"}[below(4)];
        }
        if (below(6) == 0) {
            int at = below(text.length());
            char letter = "0123456789..,,(())+-*/xnitagmqphlfrA".charAt(below(36));
            text = text.substring(0, at) + letter + text.substring(at + below(2));
        }
        return writes(text) && both("fault(" + isRule + ")", () -> quick.fault(isRule), () -> slow.fault(isRule));
    }

    private boolean tell() {
        int dam = about(3);
        int model = about(6);
        int run = newest(slow.runs.size());
        switch (below(12)) {
            case 0:
                return write(false) && both("publish(" + model + ")", () -> quick.publish(model), () -> slow.publish(model));
            case 1:
                return both("publish(" + model + ")", () -> quick.publish(model), () -> slow.publish(model));
            case 2:
                int retired = below(isPrepared ? 9 : 3) == 0 ? model : NONE;
                return both("retire(" + retired + ")", () -> quick.retire(retired), () -> slow.retire(retired));
            case 3:
            case 4:
                int gauge = about(3);
                int hour = below(30) == 0 ? about(201) : slow.now + below(20) - 5;
                int rain = below(30) == 0 ? 501 : below(3) == 0 ? 0 : below(100);
                return both("rain(" + gauge + ", " + hour + ", " + rain + ")", () -> quick.rain(gauge, hour, rain), () -> slow.rain(gauge, hour, rain));
            case 5:
                int hours = below(20) == 0 ? about(50) : 1 + below(12);
                int of = below(2) == 0 && dam >= 0 && dam < 3 ? slow.dams[dam].model : model;
                return both("run(" + of + ", " + hours + ")", () -> quick.run(of, hours), () -> slow.run(of, hours));
            case 6:
                int capacity = below(20) == 0 ? 0 : 1 + below(200);
                return both("build(" + dam + ", " + model + ", " + capacity + ")", () -> {
                    quick.build(dam, model, capacity);
                    return 0;
                }, () -> slow.build(dam, model, capacity));
            case 7:
                return (below(3) == 0 || write(true)) && both("rule(" + dam + ")", () -> {
                    quick.rule(dam);
                    return 0;
                }, () -> slow.rule(dam));
            case 8:
                return both("goBy(" + dam + ", " + run + ")", () -> {
                    quick.goBy(dam, run);
                    return 0;
                }, () -> slow.goBy(dam, run));
            case 9:
                int people = below(30) == 0 ? 10001 : below(10001);
                int danger = below(30) == 0 ? 0 : 1 + below(60);
                int walking = below(30) == 0 ? 13 : below(5);
                return both("valley(" + dam + ", " + people + ", " + danger + ", " + walking + ")", () -> {
                    quick.valley(dam, people, danger, walking);
                    return 0;
                }, () -> slow.valley(dam, people, danger, walking));
            case 10:
                return both("sound(" + dam + ", " + run + ")", () -> quick.sound(dam, run), () -> slow.sound(dam, run));
            default:
                int passing = below(20) == 0 ? about(26) : 1 + below(5);
                return both("pass(" + passing + ")", () -> quick.pass(passing), () -> slow.pass(passing));
        }
    }

    private boolean ask(int dam, int model, int version, int hour, int run, int siren) {
        return both("latest(" + model + ")", () -> quick.latest(model), () -> slow.latest(model))
            && both("pin(" + version + ", " + model + ")", () -> quick.pin(version, model), () -> slow.pin(version, model))
            && both("out(" + version + ", " + hour + ")", () -> quick.out(version, hour), () -> slow.out(version, hour))
            && both("why(" + run + ")", () -> quick.why(run), () -> slow.why(run))
            && both("peak(" + run + ")", () -> quick.peak(run), () -> slow.peak(run))
            && both("peakHour(" + run + ")", () -> quick.peakHour(run), () -> slow.peakHour(run))
            && both("level(" + dam + ")", () -> quick.level(dam), () -> slow.level(dam))
            && both("below(" + dam + ", " + (slow.now - 1) + ")", () -> quick.below(dam, slow.now - 1), () -> slow.below(dam, slow.now - 1))
            && both("siren(" + siren + ")", () -> quick.siren(siren), () -> slow.siren(siren))
            && both("walkers(" + siren + ")", () -> quick.walkers(siren), () -> slow.walkers(siren))
            && both("trust(" + dam + ")", () -> quick.trust(dam), () -> slow.trust(dam))
            && both("saved(" + dam + ")", () -> quick.saved(dam), () -> slow.saved(dam))
            && both("alarm()", quick::alarm, slow::alarm);
    }

    private boolean askAnew(int version, int hour, int run) {
        return both("outAnew(" + version + ", " + hour + ")", () -> quick.outAnew(version, hour), () -> slow.out(version, hour))
            && both("peakAnew(" + run + ")", () -> quick.peakAnew(run), () -> slow.peakAnew(run));
    }

    private boolean writes(String text) {
        boolean same = both("wipe()", quick::wipe, slow::wipe);
        for (int at = 0; at < text.length() && same; at++) {
            char letter = text.charAt(at);
            same = both("type(" + letter + ")", () -> quick.type(letter), () -> slow.type(letter));
        }
        return same;
    }

    private boolean publishes(int model, String text) {
        return writes(text) && both("publish(" + model + ")", () -> quick.publish(model), () -> slow.publish(model));
    }

    /** Models, dams, rules and valleys with which runs and sirens come about more often than by chance. */
    private boolean prepare() {
        String[][] texts = {
            {"g0", "m0*2", "q1+m0", "m2"}, {"p/2+g1", "m0-q0", "g0", "m2+m1"}, {"g0+g1", "q0", "m1+m0", "x(m0,m2)"}
        };
        String[] some = texts[below(3)];
        int shift = below(3);
        boolean same = true;
        for (int model = 0; model < some.length && same; model++) {
            int to = model;
            same = shift > 0 ? publishes(to, some[to]) : publishes(5 - to, turned(some[to]));
        }
        for (int dam = 0; dam < 3 && same; dam++) {
            int at = dam;
            int model = shift > 0 ? at + below(2) : 5 - at - below(2);
            int capacity = 5 + below(60);
            int danger = 1 + below(30);
            int walking = below(4);
            same = both("build(" + at + ", " + model + ", " + capacity + ")", () -> {
                quick.build(at, model, capacity);
                return 0;
            }, () -> slow.build(at, model, capacity)) && both("valley(" + at + ", 999, " + danger + ", " + walking + ")", () -> {
                quick.valley(at, 999, danger, walking);
                return 0;
            }, () -> slow.valley(at, 999, danger, walking));
            if (same && below(3) > 0) {
                same = writes(new String[] {"l+f", "r/3", "i(r-20,l,f)", "l/2+h"}[below(4)]) && both("rule(" + at + ")", () -> {
                    quick.rule(at);
                    return 0;
                }, () -> slow.rule(at));
            }
        }
        return same;
    }

    /** The same text for models that are counted from the other end, so that upper ones stand before lower ones. */
    private static String turned(String text) {
        StringBuilder turned = new StringBuilder();
        for (int at = 0; at < text.length(); at++) {
            boolean isModel = at > 0 && "mq".indexOf(text.charAt(at - 1)) >= 0;
            turned.append(isModel ? (char) ('5' - text.charAt(at) + '0') : text.charAt(at));
        }
        return turned.toString();
    }

    /** A rain, a run of a dam's model, the dam's way by it, a siren, an hour. */
    private boolean live() {
        int dam = below(3);
        int gauge = below(2);
        int hour = slow.now + below(8) - 1;
        int rain = below(60);
        int hours = 1 + below(5);
        int model = slow.dams[dam].model;
        boolean same = below(4) == 0 || both("rain(" + gauge + ", " + hour + ", " + rain + ")", () -> quick.rain(gauge, hour, rain), () -> slow.rain(gauge, hour, rain));
        same = same && (below(2) == 0 || both("run(" + model + ", " + hours + ")", () -> quick.run(model, hours), () -> slow.run(model, hours)));
        int run = below(4) > 0 ? slow.runs.size() - 1 : newest(slow.runs.size());
        same = same && (below(2) == 0 || both("sound(" + dam + ", " + run + ")", () -> quick.sound(dam, run), () -> slow.sound(dam, run)));
        same = same && (below(2) == 0 || both("goBy(" + dam + ", " + run + ")", () -> {
            quick.goBy(dam, run);
            return 0;
        }, () -> slow.goBy(dam, run)));
        int passing = 1 + below(2);
        same = same && (below(2) == 0 || both("pass(" + passing + ")", () -> quick.pass(passing), () -> slow.pass(passing)));
        int siren = newest(slow.sirens.size());
        return same && (below(2) == 0 || both("siren(" + siren + ")", () -> quick.siren(siren), () -> slow.siren(siren))
            && both("below(" + dam + ", " + (slow.now - 1) + ")", () -> quick.below(dam, slow.now - 1), () -> slow.below(dam, slow.now - 1))
            && both("level(" + dam + ")", () -> quick.level(dam), () -> slow.level(dam))
            && both("trust(" + dam + ")", () -> quick.trust(dam), () -> slow.trust(dam))
            && both("saved(" + dam + ")", () -> quick.saved(dam), () -> slow.saved(dam))
            && both("why(" + run + ")", () -> quick.why(run), () -> slow.why(run))
            && both("alarm()", quick::alarm, slow::alarm));
    }

    private boolean walk() {
        boolean same = !isPrepared || prepare();
        while (same && calls < CALLS) {
            same = isPrepared && below(5) > 0 ? live() : tell();
            if (same && below(12) == 0) {
                int version = newest(slow.versions.size());
                int hour = below(3) == 0 ? about(201) : slow.now;
                same = ask(about(3), about(6), version, hour, newest(slow.runs.size()), newest(slow.sirens.size()));
            }
            if (same && below(20) == 0) {
                same = askAnew(newest(slow.versions.size()), about(201), newest(slow.runs.size()));
            }
        }
        for (Slow.Siren siren : slow.sirens) {
            fates[siren.fate]++;
        }
        return same;
    }

    /** The fault of a text of letters by chance, by the grammar. */
    private static boolean faultsAlike(Random random) {
        String letters = random.nextInt(2) == 0 ? "1.+-*(),xith" : "0123456789..((()))+*-/,xnitagmqphlfr";
        FlumeRegistry quick = new FlumeRegistry();
        StringBuilder typed = new StringBuilder();
        boolean same = true;
        for (int at = 0; at < 40 && same; at++) {
            boolean isRule = random.nextInt(2) == 0;
            char letter = letters.charAt(random.nextInt(letters.length()));
            String longer = typed.toString() + letter;
            int fault = new Grammar(longer, isRule).fault();
            if (fault == longer.length() || fault == NONE || random.nextInt(20) == 0) {
                typed.append(letter);
                quick.type(letter);
                same = quick.fault(isRule) == fault;
            }
        }
        if (!same) {
            System.out.println("the fault of " + typed + " is another one");
        }
        return same;
    }

    public static void main(String[] args) {
        Random random = new Random(7L);
        for (int text = 0; text < 20000; text++) {
            if (!faultsAlike(random)) {
                System.exit(1);
            }
        }
        int walks = args.length > 0 ? Integer.parseInt(args[0]) : WALKS;
        for (int seed = 1; seed <= walks; seed++) {
            if (!new FlumeRegistryWalks(seed).walk()) {
                System.out.println("walk " + seed + " went another way");
                System.exit(1);
            }
        }
        if (args.length > 0) {
            new java.util.TreeMap<>(seen).forEach((kind, count) -> System.out.println(kind + ": " + count));
            System.out.println("sirens: " + java.util.Arrays.toString(fates));
        }
        System.out.println(walks + " walks went the same way");
    }
}
