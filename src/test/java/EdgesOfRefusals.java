import java.util.function.IntSupplier;

/**
 * Each call that is refused, by each reason that its throws clause names: it throws what is named first, and changes nothing.
 * For the latter a registry that refused the call is asked and told the same as a twin that never got it.
 */
public final class EdgesOfRefusals extends Checks {
    private static final int LEAST = Integer.MIN_VALUE;
    private static final int MOST = Integer.MAX_VALUE;
    private static final int[] NO_MODEL = {-1, 6, 7, LEAST, MOST};
    private static final int[] NO_DAM = {-1, 3, 4, LEAST, MOST};
    private static final int[] NO_HOUR = {-1, 201, 202, LEAST, MOST};

    private interface Scene {
        FlumeRegistry make();
    }

    private interface Act {
        void on(FlumeRegistry x);
    }

    public static void main(String[] args) {
        types();
        publishesOfNoModel();
        publishesOfNoText();
        publishesThatMayNotBe();
        retires();
        latestsAndPins();
        rains();
        outs();
        runs();
        asksOfRuns();
        builds();
        rules();
        goesBy();
        levelsAndBelows();
        valleys();
        sounds();
        asksOfSirens();
        trustsAndSaves();
        passes();
        twinsThatDiffer();
        end("each refused call throws what is due, and changes nothing");
    }

    /** Some of all: versions that pin others, one retired, runs of all three kinds, two dams, a siren that rings. */
    private static FlumeRegistry busy(String text) {
        FlumeRegistry x = new FlumeRegistry();
        publish(x, 0, "g0");
        publish(x, 1, "m0*2+q0");
        publish(x, 2, "g1");
        publish(x, 3, "h");
        x.rain(0, 9, 30);
        x.rain(0, 2, 8);
        x.rain(0, 4, 12);
        x.rain(1, 4, 12);
        for (int model = 0; model < 4; model++) {
            x.run(model, 12);
        }
        x.retire(3);
        x.rain(1, 5, 6);
        x.build(0, 0, 50);
        x.build(1, 1, 60);
        rule(x, 0, "l/2+r/9+f/3");
        x.goBy(0, 0);
        x.valley(0, 500, 10, 2);
        x.valley(1, 700, 20, 3);
        x.sound(1, 1);
        x.pass(3);
        return write(x, text);
    }

    /** Model 1 rests on model 0; the last versions are of model 2. */
    private static FlumeRegistry versions(int count, String text) {
        FlumeRegistry x = new FlumeRegistry();
        publish(x, 0, "5");
        publish(x, 1, "m0");
        write(x, "h");
        for (int number = 2; number < count; number++) {
            x.publish(2);
        }
        return write(x, text);
    }

    private static FlumeRegistry fortyRuns() {
        FlumeRegistry x = busy("g0");
        for (int number = 4; number < 40; number++) {
            x.run(number % 3, 20);
        }
        return x;
    }

    private static FlumeRegistry sixtySirens() {
        FlumeRegistry x = busy("g0");
        // Behind the last hour of its run each siren is judged at once.
        x.pass(10);
        for (int number = 1; number < 60; number++) {
            x.sound(0, 0);
            x.pass(1);
        }
        return x;
    }

    private static FlumeRegistry atHour(int hour) {
        return later(busy("g0"), hour - 3);
    }

    private static void answer(StringBuilder told, IntSupplier call) {
        try {
            told.append(call.getAsInt());
        } catch (IndexOutOfBoundsException e) {
            told.append('x');
        } catch (IllegalArgumentException e) {
            told.append('a');
        } catch (IllegalStateException e) {
            told.append('s');
        }
        told.append(' ');
    }

    private static void answerNothing(StringBuilder told, Call call) {
        answer(told, () -> {
            call.make();
            return 0;
        });
    }

    private static void askVersions(FlumeRegistry x, StringBuilder told) {
        for (int model = 0; model < 6; model++) {
            int of = model;
            answer(told, () -> x.latest(of));
        }
        for (int version : new int[] {0, 1, 2, 3, 4, 5, 58, 59, 60}) {
            answer(told, () -> x.pin(version, 0));
            answer(told, () -> x.out(version, 9));
        }
        answer(told, () -> x.outAnew(1, 10));
        answer(told, () -> x.outAnew(2, 4));
    }

    private static void askRuns(FlumeRegistry x, StringBuilder told) {
        for (int run : new int[] {0, 1, 2, 3, 4, 5, 39, 40}) {
            answer(told, () -> x.why(run));
            answer(told, () -> x.peak(run));
            answer(told, () -> x.peakHour(run));
            answer(told, () -> x.peakAnew(run));
        }
    }

    private static void askDams(FlumeRegistry x, StringBuilder told) {
        for (int dam = 0; dam < 3; dam++) {
            int at = dam;
            answer(told, () -> x.level(at));
            answer(told, () -> x.below(at, 0));
            answer(told, () -> x.below(at, 3));
            answer(told, () -> x.trust(at));
            answer(told, () -> x.saved(at));
        }
        for (int siren : new int[] {0, 1, 2, 58, 59, 60}) {
            answer(told, () -> x.siren(siren));
            answer(told, () -> x.walkers(siren));
        }
        answer(told, x::alarm);
    }

    /** All that can be seen of a registry, first by asking, then by telling it more. */
    private static String told(FlumeRegistry x) {
        StringBuilder told = new StringBuilder();
        answer(told, () -> x.fault(false));
        answer(told, () -> x.fault(true));
        askVersions(x, told);
        askRuns(x, told);
        askDams(x, told);
        for (int dam = 0; dam < 3; dam++) {
            int at = dam;
            answer(told, () -> x.sound(at, at));
        }
        answer(told, () -> x.pass(1));
        askDams(x, told);
        answer(told, () -> x.pass(8));
        askDams(x, told);
        for (int dam = 0; dam < 3; dam++) {
            int at = dam;
            answerNothing(told, () -> x.rule(at));
        }
        answer(told, () -> x.pass(1));
        askDams(x, told);
        for (int dam = 0; dam < 3; dam++) {
            int at = dam;
            answerNothing(told, () -> x.goBy(at, at));
            answer(told, () -> x.sound(at, at));
        }
        answer(told, () -> x.pass(12));
        askDams(x, told);
        for (int model = 0; model < 6; model++) {
            int of = model;
            answer(told, () -> x.run(of, 3));
            answer(told, () -> x.publish(of));
        }
        askVersions(x, told);
        answer(told, x::wipe);
        for (int gauge = 0; gauge < 3; gauge++) {
            for (int hour : new int[] {0, 4, 5, 9, 200}) {
                int of = gauge;
                answer(told, () -> x.rain(of, hour, 1));
            }
        }
        for (int dam = 0; dam < 3; dam++) {
            int at = dam;
            answerNothing(told, () -> x.valley(at, 1, 1, 1));
            answerNothing(told, () -> x.build(at, 5, 1));
        }
        answer(told, () -> x.pass(1));
        return told.toString();
    }

    private static void refused(Scene scene, String what, String want, Act act) {
        FlumeRegistry x = scene.make();
        FlumeRegistry twin = scene.make();
        fails(what, want, () -> act.on(x));
        fails(what + ", again", want, () -> act.on(x));
        same("what comes behind " + what, told(x), told(twin));
    }

    private static void types() {
        sentence("type: throws, and changes nothing");
        String full = "1+2+3+4+5+6+7+8+9+1+2+3+4+5+6+7+8+9+1+10";
        for (char letter : new char[] {'A', ' ', '=', '^', '\0', '\n', (char) 233, Character.MAX_VALUE}) {
            refused(FlumeRegistry::new, "type", ARGUMENT, x -> x.type(letter));
            refused(() -> busy("g0"), "type", ARGUMENT, x -> x.type(letter));
            refused(() -> busy(full), "type, with 40 letters", ARGUMENT, x -> x.type(letter));
            refused(() -> busy(full.substring(0, 39)), "type, with 39 letters", ARGUMENT, x -> x.type(letter));
        }
        for (char letter : LETTERS.toCharArray()) {
            refused(() -> busy(full), "type, with 40 letters", STATE, x -> x.type(letter));
        }
    }

    private static void publishesOfNoModel() {
        sentence("publish: IndexOutOfBoundsException if there is no such model");
        for (int model : NO_MODEL) {
            refused(() -> busy("g0"), "publish", INDEX, x -> x.publish(model));
            refused(() -> busy("m5"), "publish, naming one without a version", INDEX, x -> x.publish(model));
            refused(() -> busy("1+"), "publish, of no text", INDEX, x -> x.publish(model));
            refused(() -> versions(60, "1"), "publish, of 60", INDEX, x -> x.publish(model));
            refused(() -> versions(60, "("), "publish, of no text and 60", INDEX, x -> x.publish(model));
            refused(FlumeRegistry::new, "publish, of nothing", INDEX, x -> x.publish(model));
        }
    }

    private static void publishesOfNoText() {
        sentence("publish: IllegalArgumentException if the text is no model's text");
        for (int model = 0; model < 6; model++) {
            int of = model;
            refused(FlumeRegistry::new, "publish, of nothing", ARGUMENT, x -> x.publish(of));
            refused(() -> versions(60, "1+"), "publish, of no text and 60", ARGUMENT, x -> x.publish(of));
            for (String text : new String[] {"", "1+", "l", "f*2", "r", "g0+l", "g3", "1)", "(1", "x(1)", "m" + model + ")", "q5+"}) {
                refused(() -> busy(text), "publish of " + text, ARGUMENT, x -> x.publish(of));
            }
        }
    }

    private static void publishesThatMayNotBe() {
        sentence("publish: IllegalStateException");
        for (int model = 0; model < 6; model++) {
            int of = model;
            refused(() -> busy("m" + of), "publish, naming itself", STATE, x -> x.publish(of));
            refused(() -> busy("g0+q" + of), "publish, naming itself before", STATE, x -> x.publish(of));
            refused(() -> busy("m" + (of == 3 ? 5 : 3)), "publish, naming a retired one", STATE, x -> x.publish(of));
            refused(() -> busy("g0+m0+q" + (of == 4 ? 5 : 4)), "publish, naming one without a version", STATE, x -> x.publish(of));
            refused(() -> versions(60, "1"), "publish, of 60", STATE, x -> x.publish(of));
        }
        refused(() -> busy("m1"), "publish, in a ring", STATE, x -> x.publish(0));
        refused(() -> busy("g0+q1"), "publish, in a ring", STATE, x -> x.publish(0));
        refused(() -> busy("m2+m1"), "publish, in a ring", STATE, x -> x.publish(0));
        refused(() -> versions(59, "1"), "publish, with two of 59", STATE, x -> x.publish(0));
        same("publish, with one of 59", versions(59, "1").publish(1), 59);
        same("publish, with two of 58", versions(58, "1").publish(0), 58);
    }

    private static void retires() {
        sentence("retire: throws, and changes nothing");
        for (int model : NO_MODEL) {
            refused(() -> busy("g0"), "retire", INDEX, x -> x.retire(model));
            refused(FlumeRegistry::new, "retire", INDEX, x -> x.retire(model));
        }
        for (int model = 0; model < 6; model++) {
            int of = model;
            refused(FlumeRegistry::new, "retire", STATE, x -> x.retire(of));
        }
        refused(() -> busy("g0"), "retire, with one on it", STATE, x -> x.retire(0));
        refused(() -> busy("g0"), "retire, of one that was retired", STATE, x -> x.retire(3));
        refused(() -> busy("g0"), "retire, of one without a version", STATE, x -> x.retire(5));
    }

    private static void latestsAndPins() {
        sentence("latest, pin: IndexOutOfBoundsException");
        for (int model : NO_MODEL) {
            refused(() -> busy("g0"), "latest", INDEX, x -> x.latest(model));
            refused(() -> busy("g0"), "pin", INDEX, x -> x.pin(0, model));
            refused(() -> busy("g0"), "pin, of no version too", INDEX, x -> x.pin(4, model));
        }
        for (int version : new int[] {-1, 4, 5, 60, LEAST, MOST}) {
            refused(() -> busy("g0"), "pin", INDEX, x -> x.pin(version, 0));
        }
        for (int version : new int[] {-1, 60, 61, LEAST, MOST}) {
            refused(() -> versions(60, "1"), "pin", INDEX, x -> x.pin(version, 0));
        }
        refused(FlumeRegistry::new, "pin", INDEX, x -> x.pin(0, 0));
    }

    private static void rains() {
        sentence("rain: throws, and changes nothing");
        for (int gauge : NO_DAM) {
            refused(() -> busy("g0"), "rain", INDEX, x -> x.rain(gauge, 9, 1));
            refused(() -> busy("g0"), "rain, in no hour", INDEX, x -> x.rain(gauge, 201, 1));
            refused(() -> busy("g0"), "rain, of no millimetres", INDEX, x -> x.rain(gauge, 9, 501));
        }
        for (int gauge = 0; gauge < 3; gauge++) {
            int of = gauge;
            for (int hour : NO_HOUR) {
                refused(() -> busy("g0"), "rain", ARGUMENT, x -> x.rain(of, hour, 1));
                refused(() -> busy("g0"), "rain, of no millimetres", ARGUMENT, x -> x.rain(of, hour, -1));
            }
            for (int millimetres : new int[] {-1, 501, 502, LEAST, MOST}) {
                refused(() -> busy("g0"), "rain", ARGUMENT, x -> x.rain(of, 9, millimetres));
                refused(() -> busy("g0"), "rain", ARGUMENT, x -> x.rain(of, 0, millimetres));
            }
        }
    }

    private static void outs() {
        sentence("out, outAnew: throws, and changes nothing");
        for (int version : new int[] {-1, 4, 5, 60, LEAST, MOST}) {
            refused(() -> busy("g0"), "out", INDEX, x -> x.out(version, 0));
            refused(() -> busy("g0"), "out, in no hour", INDEX, x -> x.out(version, 201));
            refused(() -> busy("g0"), "outAnew", INDEX, x -> x.outAnew(version, 0));
            refused(() -> busy("g0"), "outAnew, in no hour", INDEX, x -> x.outAnew(version, -1));
        }
        for (int version : new int[] {-1, 60, LEAST, MOST}) {
            refused(() -> versions(60, "1"), "out", INDEX, x -> x.out(version, 0));
            refused(() -> versions(60, "1"), "outAnew", INDEX, x -> x.outAnew(version, 0));
        }
        for (int hour : NO_HOUR) {
            for (int version = 0; version < 4; version++) {
                int of = version;
                refused(() -> busy("g0"), "out", ARGUMENT, x -> x.out(of, hour));
                refused(() -> busy("g0"), "outAnew", ARGUMENT, x -> x.outAnew(of, hour));
            }
            refused(FlumeRegistry::new, "out", INDEX, x -> x.out(0, hour));
            refused(FlumeRegistry::new, "outAnew", INDEX, x -> x.outAnew(0, hour));
        }
    }

    private static void runs() {
        sentence("run: throws, and changes nothing");
        for (int model : NO_MODEL) {
            refused(() -> busy("g0"), "run", INDEX, x -> x.run(model, 1));
            refused(() -> busy("g0"), "run, for no hours", INDEX, x -> x.run(model, 0));
            refused(EdgesOfRefusals::fortyRuns, "run, of 40", INDEX, x -> x.run(model, 1));
            refused(() -> atHour(187), "run, behind the last hour", INDEX, x -> x.run(model, 48));
        }
        for (int hours : new int[] {0, -1, 49, 50, LEAST, MOST}) {
            refused(() -> busy("g0"), "run", ARGUMENT, x -> x.run(0, hours));
            refused(() -> busy("g0"), "run, without a version", ARGUMENT, x -> x.run(5, hours));
            refused(() -> busy("g0"), "run, of one that was retired", ARGUMENT, x -> x.run(3, hours));
            refused(EdgesOfRefusals::fortyRuns, "run, of 40", ARGUMENT, x -> x.run(0, hours));
            refused(() -> atHour(187), "run, behind the last hour", ARGUMENT, x -> x.run(0, hours));
        }
        for (int hours : new int[] {1, 12, 48}) {
            refused(() -> busy("g0"), "run, without a version", STATE, x -> x.run(5, hours));
            refused(() -> busy("g0"), "run, of one that was retired", STATE, x -> x.run(3, hours));
            refused(EdgesOfRefusals::fortyRuns, "run, of 40", STATE, x -> x.run(0, hours));
        }
        for (int hour = 153; hour <= 186; hour += 11) {
            int now = hour;
            refused(() -> atHour(now), "run, behind the last hour", STATE, x -> x.run(0, 48));
            refused(() -> atHour(now), "run, one behind the last hour", STATE, x -> x.run(0, 201 - now));
        }
    }

    private static void asksOfRuns() {
        sentence("why, peak, peakHour, peakAnew: IndexOutOfBoundsException if there is no such run");
        for (int run : new int[] {-1, 4, 5, 40, LEAST, MOST}) {
            refused(() -> busy("g0"), "why", INDEX, x -> x.why(run));
            refused(() -> busy("g0"), "peak", INDEX, x -> x.peak(run));
            refused(() -> busy("g0"), "peakHour", INDEX, x -> x.peakHour(run));
            refused(() -> busy("g0"), "peakAnew", INDEX, x -> x.peakAnew(run));
        }
        for (int run : new int[] {-1, 40, 41, LEAST, MOST}) {
            refused(EdgesOfRefusals::fortyRuns, "why", INDEX, x -> x.why(run));
            refused(EdgesOfRefusals::fortyRuns, "peak", INDEX, x -> x.peak(run));
            refused(EdgesOfRefusals::fortyRuns, "peakHour", INDEX, x -> x.peakHour(run));
            refused(EdgesOfRefusals::fortyRuns, "peakAnew", INDEX, x -> x.peakAnew(run));
        }
        refused(FlumeRegistry::new, "peakAnew", INDEX, x -> x.peakAnew(0));
    }

    private static void builds() {
        sentence("build: throws, and changes nothing");
        for (int dam : NO_DAM) {
            refused(() -> busy("g0"), "build", INDEX, x -> x.build(dam, 0, 1));
            refused(() -> busy("g0"), "build, of no capacity", INDEX, x -> x.build(dam, 0, 0));
            refused(() -> busy("g0"), "build, for no model", INDEX, x -> x.build(dam, 6, 1));
        }
        for (int model : NO_MODEL) {
            refused(() -> busy("g0"), "build", INDEX, x -> x.build(2, model, 1));
            refused(() -> busy("g0"), "build, of no capacity", INDEX, x -> x.build(2, model, 100001));
            refused(() -> busy("g0"), "build, of one that is built", INDEX, x -> x.build(0, model, 1));
        }
        for (int capacity : new int[] {0, -1, 100001, LEAST, MOST}) {
            refused(() -> busy("g0"), "build", ARGUMENT, x -> x.build(2, 0, capacity));
            refused(() -> busy("g0"), "build, of one that is built", ARGUMENT, x -> x.build(0, 0, capacity));
        }
        for (int dam = 0; dam < 2; dam++) {
            int at = dam;
            refused(() -> busy("g0"), "build, of one that is built", STATE, x -> x.build(at, at, 50));
            refused(() -> busy("g0"), "build, of one that is built", STATE, x -> x.build(at, 5, 1));
        }
    }

    private static void rules() {
        sentence("rule: throws, and changes nothing");
        for (int dam : NO_DAM) {
            refused(() -> busy("l"), "rule", INDEX, x -> x.rule(dam));
            refused(() -> busy("g0"), "rule, of no rule", INDEX, x -> x.rule(dam));
            refused(FlumeRegistry::new, "rule, of nothing", INDEX, x -> x.rule(dam));
        }
        for (String text : new String[] {"", "l+", "g0", "l+p", "m0", "q1", "1)", "n(l,f"}) {
            refused(() -> busy(text), "rule of " + text, ARGUMENT, x -> x.rule(0));
            refused(() -> busy(text), "rule of " + text, ARGUMENT, x -> x.rule(1));
            refused(() -> busy(text), "rule of " + text + ", not built", ARGUMENT, x -> x.rule(2));
        }
        for (String text : new String[] {"l", "1", "n(l,f)", "r*h"}) {
            refused(() -> busy(text), "rule of " + text + ", not built", STATE, x -> x.rule(2));
        }
    }

    private static void goesBy() {
        sentence("goBy: throws, and changes nothing");
        for (int dam : NO_DAM) {
            refused(() -> busy("l"), "goBy", INDEX, x -> x.goBy(dam, 0));
            refused(() -> busy("l"), "goBy, by no run", INDEX, x -> x.goBy(dam, 4));
            refused(() -> busy("l"), "goBy, by one that does not stand", INDEX, x -> x.goBy(dam, 3));
        }
        for (int run : new int[] {-1, 4, 40, LEAST, MOST}) {
            refused(() -> busy("l"), "goBy", INDEX, x -> x.goBy(0, run));
            refused(() -> busy("l"), "goBy, not built", INDEX, x -> x.goBy(2, run));
        }
        for (int run = 0; run < 4; run++) {
            int by = run;
            refused(() -> busy("l"), "goBy, not built", STATE, x -> x.goBy(2, by));
        }
        for (int run = 1; run < 4; run++) {
            int by = run;
            refused(() -> busy("l"), "goBy, of another model", STATE, x -> x.goBy(0, by));
        }
        refused(() -> busy("l"), "goBy, of another model", STATE, x -> x.goBy(1, 0));
        for (int model = 2; model < 4; model++) {
            int of = model;
            Scene third = () -> {
                FlumeRegistry x = busy("l");
                x.build(2, of, 9);
                return x;
            };
            refused(third, "goBy, by one that does not stand", STATE, x -> x.goBy(2, of));
        }
    }

    private static void levelsAndBelows() {
        sentence("level, below: throws, and changes nothing");
        for (int dam : NO_DAM) {
            refused(() -> busy("g0"), "level", INDEX, x -> x.level(dam));
            refused(() -> busy("g0"), "below", INDEX, x -> x.below(dam, 0));
            refused(() -> busy("g0"), "below, in no hour", INDEX, x -> x.below(dam, 3));
            refused(() -> busy("g0"), "below, in no hour", INDEX, x -> x.below(dam, -1));
        }
        for (int dam = 0; dam < 3; dam++) {
            int at = dam;
            for (int hour : new int[] {-1, 3, 4, 200, 201, LEAST, MOST}) {
                refused(() -> busy("g0"), "below", ARGUMENT, x -> x.below(at, hour));
            }
            for (int hour : new int[] {-1, 200, 201, LEAST, MOST}) {
                refused(() -> atHour(200), "below", ARGUMENT, x -> x.below(at, hour));
            }
            refused(FlumeRegistry::new, "below", ARGUMENT, x -> x.below(at, 0));
        }
    }

    private static void valleys() {
        sentence("valley: throws, and changes nothing");
        for (int dam : NO_DAM) {
            refused(() -> busy("g0"), "valley", INDEX, x -> x.valley(dam, 1, 1, 1));
            refused(() -> busy("g0"), "valley, of no people", INDEX, x -> x.valley(dam, -1, 1, 1));
            refused(() -> busy("g0"), "valley, of no danger", INDEX, x -> x.valley(dam, 1, 0, 1));
            refused(() -> busy("g0"), "valley, of no hours", INDEX, x -> x.valley(dam, 1, 1, 13));
        }
        for (int dam = 0; dam < 3; dam++) {
            int at = dam;
            for (int people : new int[] {-1, 10001, LEAST, MOST}) {
                refused(() -> busy("g0"), "valley, by people", ARGUMENT, x -> x.valley(at, people, 1, 1));
            }
            for (int danger : new int[] {0, -1, 100001, LEAST, MOST}) {
                refused(() -> busy("g0"), "valley, by danger", ARGUMENT, x -> x.valley(at, 1, danger, 1));
            }
            for (int hours : new int[] {-1, 13, LEAST, MOST}) {
                refused(() -> busy("g0"), "valley, by hours", ARGUMENT, x -> x.valley(at, 1, 1, hours));
            }
        }
        refused(() -> busy("g0"), "valley, not built", STATE, x -> x.valley(2, 1, 1, 1));
        refused(FlumeRegistry::new, "valley, not built", STATE, x -> x.valley(0, 10000, 100000, 12));
    }

    private static void sounds() {
        sentence("sound: throws, and changes nothing");
        for (int dam : NO_DAM) {
            refused(() -> busy("g0"), "sound", INDEX, x -> x.sound(dam, 0));
            refused(() -> busy("g0"), "sound, by no run", INDEX, x -> x.sound(dam, 4));
            refused(EdgesOfRefusals::sixtySirens, "sound, of 60", INDEX, x -> x.sound(dam, 0));
        }
        for (int run : new int[] {-1, 40, LEAST, MOST}) {
            refused(() -> busy("g0"), "sound, by no run", INDEX, x -> x.sound(0, run));
            refused(() -> busy("g0"), "sound, by no run, not built", INDEX, x -> x.sound(2, run));
            refused(() -> busy("g0"), "sound, by no run, one rings", INDEX, x -> x.sound(1, run));
            refused(EdgesOfRefusals::sixtySirens, "sound, by no run, of 60", INDEX, x -> x.sound(0, run));
        }
        refused(() -> busy("g0"), "sound, not built", STATE, x -> x.sound(2, 0));
        refused(() -> busy("g0"), "sound, one rings", STATE, x -> x.sound(1, 1));
        refused(() -> busy("g0"), "sound, of another model", STATE, x -> x.sound(0, 1));
        refused(() -> busy("g0"), "sound, by one that was rained", STATE, x -> x.sound(0, 2));
        refused(() -> busy("g0"), "sound, by one that was mended", STATE, x -> x.sound(0, 3));
        refused(EdgesOfRefusals::sixtySirens, "sound, of 60", STATE, x -> x.sound(0, 0));
        for (int model = 2; model < 4; model++) {
            int of = model;
            Scene third = () -> {
                FlumeRegistry x = busy("l");
                x.build(2, of, 9);
                return x;
            };
            refused(third, "sound, no valley", STATE, x -> x.sound(2, of));
            Scene below = () -> {
                FlumeRegistry x = third.make();
                x.valley(2, 1, 1, 0);
                return x;
            };
            refused(below, "sound, by one that does not stand", STATE, x -> x.sound(2, of));
        }
        Scene safe = () -> {
            FlumeRegistry x = busy("l");
            x.valley(0, 1, 31, 0);
            return x;
        };
        refused(safe, "sound, below the danger", STATE, x -> x.sound(0, 0));
    }

    private static void asksOfSirens() {
        sentence("siren, walkers: IndexOutOfBoundsException if there is no such siren");
        for (int siren : new int[] {-1, 1, 2, 60, LEAST, MOST}) {
            refused(() -> busy("g0"), "siren", INDEX, x -> x.siren(siren));
            refused(() -> busy("g0"), "walkers", INDEX, x -> x.walkers(siren));
        }
        for (int siren : new int[] {-1, 60, 61, LEAST, MOST}) {
            refused(EdgesOfRefusals::sixtySirens, "siren", INDEX, x -> x.siren(siren));
            refused(EdgesOfRefusals::sixtySirens, "walkers", INDEX, x -> x.walkers(siren));
        }
    }

    private static void trustsAndSaves() {
        sentence("trust, saved: IndexOutOfBoundsException if there is no such dam");
        for (int dam : NO_DAM) {
            refused(() -> busy("g0"), "trust", INDEX, x -> x.trust(dam));
            refused(() -> busy("g0"), "saved", INDEX, x -> x.saved(dam));
        }
    }

    private static void passes() {
        sentence("pass: throws, and changes nothing");
        for (int hours : new int[] {0, -1, 25, 26, LEAST, MOST}) {
            refused(() -> busy("g0"), "pass", ARGUMENT, x -> x.pass(hours));
            refused(() -> atHour(200), "pass, behind the last hour", ARGUMENT, x -> x.pass(hours));
            refused(() -> atHour(187), "pass, behind the last hour", ARGUMENT, x -> x.pass(hours));
        }
        for (int hours = 1; hours <= 24; hours++) {
            int these = hours;
            refused(() -> atHour(201 - these), "pass, one behind the last hour", STATE, x -> x.pass(these));
            refused(() -> atHour(200), "pass, behind the last hour", STATE, x -> x.pass(these));
        }
    }

    /** That the twins can be told from each other: one of them gets a call that is not refused. */
    private static void twinsThatDiffer() {
        sentence("what is asked of the twins shows each change");
        Act[] acts = {
            x -> x.type('1'), FlumeRegistry::wipe, x -> x.publish(2), x -> x.publish(0), x -> x.publish(5), x -> x.retire(2), x -> x.rain(0, 9, 31),
            x -> x.rain(2, 4, 1), x -> x.rain(0, 200, 1), x -> x.run(0, 3), x -> x.build(2, 5, 1), x -> x.valley(0, 499, 10, 2), x -> x.valley(0, 500, 25, 2),
            x -> x.valley(0, 500, 10, 12), x -> x.sound(0, 0), x -> x.pass(1), x -> x.goBy(1, 1), x -> x.rule(0), x -> x.rule(1)
        };
        for (int which = 0; which < acts.length; which++) {
            String text = which >= acts.length - 3 ? "l/3+r/7" : "3";
            FlumeRegistry x = busy(text);
            acts[which].on(x);
            same("whether the act " + which + " can be seen", told(x).equals(told(busy(text))) ? 0 : 1, 1);
        }
    }
}
