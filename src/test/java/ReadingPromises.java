/** The promises of the document from the first to the last line of each, sentence by sentence, and what is not promised. */
public final class ReadingPromises extends Reading {
    private static final int LEAST = Integer.MIN_VALUE, MOST = Integer.MAX_VALUE;
    private static final int[] NO_MODEL = {-1, 6, LEAST, MOST};
    private static final int[] NO_THIRD = {-1, 3, LEAST, MOST};
    private static final int[] NO_HOUR = {-1, 201, LEAST, MOST};

    public static void main(String[] args) {
        beginAt("`FlumeRegistry()`");
        newObject();
        type();
        wipe();
        fault();
        publish();
        refusedToPublish();
        retire();
        latest();
        pin();
        rain();
        out();
        outAnew();
        run();
        refusedToRun();
        why();
        peak();
        peakHour();
        peakAnew();
        build();
        rule();
        goBy();
        level();
        below();
        valley();
        sound();
        refusedToSound();
        siren();
        walkers();
        trust();
        saved();
        alarm();
        pass();
        notPromised();
        endAt("");
        end("the promises hold, sentence by sentence");
    }

    private static void newObject() {
        says("`FlumeRegistry()`: Creates a registry without versions, dams and rains; the text is empty.");
        part("`FlumeRegistry()`: Creates a registry without versions");
        // What another object was told is not told to the new one.
        publish(valley(9, 0), 1, "1");
        FlumeRegistry x = new FlumeRegistry();
        for (int model = 0; model < 6; model++) {
            same("the latest version of the model " + model, x.latest(model), NONE);
        }
        fails("the pin of a version", INDEX, () -> x.pin(0, 0));
        part("dams");
        for (int dam = 0; dam < 3; dam++) {
            int of = dam;
            fails("the valley of a dam", STATE, () -> x.valley(of, 1, 1, 1));
            bits("the level", x.level(dam), 0f);
        }
        same("the dams with an alarm", x.alarm(), 0);
        part("rains");
        for (int gauge = 0; gauge < 3; gauge++) {
            for (int hour = 0; hour <= 200; hour += 40) {
                same("a rain", x.rain(gauge, hour, 0), 0);
            }
        }
        part("the text is empty");
        same("the fault", x.fault(false), 0);
        same("how many letters the text has", x.wipe(), 0);
        fails("a run", INDEX, () -> x.why(0));
        fails("a siren", INDEX, () -> x.siren(0));
    }

    private static void type() {
        says("`int type(char letter) throws IllegalArgumentException, IllegalStateException`: Types a letter behind the text.");
        FlumeRegistry x = write(new FlumeRegistry(), "1");
        x.type('2');
        x.type('-');
        x.type('3');
        bits("what comes of 12-3", x.out(x.publish(0), 0), 9f);
        says("`letter`: a to z, 0 to 9, or one of + - * / ( ) , .");
        for (int code = 0; code <= 256; code++) {
            char letter = (char) code;
            String want = LETTERS.indexOf(letter) >= 0 ? "nothing" : ARGUMENT;
            fails("type of the letter " + code, want, () -> new FlumeRegistry().type(letter));
        }
        says("Returns how many letters it has then.");
        FlumeRegistry y = new FlumeRegistry();
        for (int letters = 1; letters <= 40; letters++) {
            same("how many letters", y.type(LETTERS.charAt(letters)), letters);
        }
        says("Throws `IllegalArgumentException` if letter is none of these");
        for (char letter : new char[] {'A', 'Z', ' ', '_', '^', '=', ':', ';', '[', '`', '{', '!', '@', '\0', '\uffff', '\u0161'}) {
            fails("type of the letter " + (int) letter, ARGUMENT, () -> x.type(letter));
            fails("the same behind 40", ARGUMENT, () -> y.type(letter));
        }
        same("how many letters there are still", x.wipe(), 4);
        says("Throws `IllegalStateException` if it has 40 letters");
        for (char letter : new char[] {'a', '1', '+', ')'}) {
            fails("type behind 40", STATE, () -> y.type(letter));
        }
        same("how many letters there are still", y.wipe(), 40);
        same("one letter again", y.type('a'), 1);
    }

    private static void wipe() {
        says("`int wipe()`: Empties the text.");
        FlumeRegistry x = write(new FlumeRegistry(), "1+");
        x.wipe();
        same("the fault of no letter", x.fault(false), 0);
        x.type('2');
        bits("what comes of 2", x.out(x.publish(0), 0), 2f);
        says("Returns how many letters it had.");
        same("one", x.wipe(), 1);
        same("none", x.wipe(), 0);
        same("seven", write(x, "x(1,2)+").wipe(), 7);
    }

    private static void fault() {
        says("`int fault(boolean isRule)`: Returns the fault of the text.");
        FlumeRegistry x = write(new FlumeRegistry(), "1+)");
        same("the place of a letter", x.fault(false), 2);
        same("the same again", x.fault(false), 2);
        same("the length", write(x, "1+(").fault(false), 3);
        same("none", write(x, "1+h").fault(false), NONE);
        same("the text stays", x.wipe(), 3);
        says("`isRule`: true to take it as a rule, false as a model's text");
        write(x, "1+l");
        same("a rule, as a rule", x.fault(true), NONE);
        same("a rule, as a model's text", x.fault(false), 2);
        write(x, "1+p");
        same("a model's text, as a rule", x.fault(true), 2);
        same("a model's text, as one", x.fault(false), NONE);
    }

    private static void publish() {
        says("`int publish(int model) throws IndexOutOfBoundsException, IllegalArgumentException, IllegalStateException`: "
            + "Publishes the text as a new version of a model; the text stays.");
        FlumeRegistry x = write(new FlumeRegistry(), "h+2");
        bits("the output", x.out(x.publish(4), 5), 7f);
        same("the latest", x.latest(4), 0);
        bits("the output by the text that stays", x.out(x.publish(3), 6), 8f);
        same("the text stays", x.wipe(), 3);
        says("`model`: 0 to 5");
        FlumeRegistry y = write(new FlumeRegistry(), "1");
        for (int model = 0; model <= 5; model++) {
            same("the version of the model " + model, y.publish(model), model);
        }
        says("Returns the number of the version; those that are bound anew have the next ones.");
        part("Returns the number of the version");
        FlumeRegistry z = new FlumeRegistry();
        same("the first one", publish(z, 2, "1"), 0);
        same("the second one", publish(z, 1, "m2"), 1);
        same("the third one", publish(z, 0, "m1"), 2);
        part("those that are bound anew have the next ones");
        same("the next one", publish(z, 2, "2"), 3);
        same("one that is bound anew", z.latest(1), 4);
        same("one more", z.latest(0), 5);
        same("the next one", publish(z, 5, "2"), 6);
        says("Throws `IndexOutOfBoundsException` if there is no such model");
        for (int model : NO_MODEL) {
            fails("publish of the model " + model, INDEX, () -> write(z, "1").publish(model));
            fails("the same with no text", INDEX, () -> write(z, "").publish(model));
        }
        says("Throws `IllegalArgumentException` if the text is no model's text");
        for (String text : new String[] {"", "1+", "l", "f+r", ")", "m", "m0+l", "m6", "x(1)"}) {
            fails("publish of " + text, ARGUMENT, () -> publish(z, 0, text));
        }
        same("the latest is the same", z.latest(0), 5);
        same("the number of the next one", publish(z, 3, "m2"), 7);
    }

    /** A registry with so many versions, of which the models 0 to some are bound anew when the model 5 is published. */
    private static FlumeRegistry many(int versions, int bound) {
        FlumeRegistry x = new FlumeRegistry();
        publish(x, 5, "1");
        for (int model = 0; model < bound; model++) {
            publish(x, model, "m5");
        }
        write(x, "1");
        for (int version = bound + 1; version < versions; version++) {
            x.publish(4);
        }
        return x;
    }

    private static void refusedToPublish() {
        says("Throws `IllegalStateException` if it names this model, one that has no latest version, or one that rests on this model; "
            + "or there would be more than 60 versions");
        part("Throws `IllegalStateException` if it names this model");
        FlumeRegistry x = new FlumeRegistry();
        fails("this model", STATE, () -> publish(x, 0, "m0"));
        publish(x, 0, "p");
        fails("this model, when it has a version", STATE, () -> publish(x, 0, "m0"));
        fails("this model in the hour before", STATE, () -> publish(x, 0, "1+q0"));
        part("one that has no latest version");
        fails("one that never had one", STATE, () -> publish(x, 1, "m2"));
        fails("one of two", STATE, () -> publish(x, 1, "m0+q2"));
        publish(x, 2, "1");
        x.retire(2);
        fails("one that was retired", STATE, () -> publish(x, 1, "m2"));
        part("one that rests on this model");
        publish(x, 3, "q0");
        publish(x, 4, "m3");
        fails("by its text", STATE, () -> publish(x, 0, "m3"));
        fails("by one between", STATE, () -> publish(x, 0, "q4"));
        fails("by its text", STATE, () -> publish(x, 3, "m4"));
        same("the other way round", publish(x, 4, "m0+m3"), 4);
        part("there would be more than 60 versions");
        FlumeRegistry full = many(60, 0);
        fails("the 61st", STATE, () -> full.publish(3));
        FlumeRegistry almost = many(59, 0);
        same("the 60th", almost.publish(3), 59);
        FlumeRegistry bound = many(57, 3);
        fails("four more, three of which are bound anew", STATE, () -> bound.publish(5));
        same("nothing was bound anew", bound.latest(0), 1);
        same("one more", bound.publish(4), 57);
        FlumeRegistry fits = many(56, 3);
        same("four more", fits.publish(5), 56);
        same("the last one", fits.latest(2), 59);
    }

    private static void retire() {
        says("`int retire(int model) throws IndexOutOfBoundsException, IllegalStateException`: Retires a model: its latest version is so no more.");
        FlumeRegistry x = new FlumeRegistry();
        publish(x, 3, "3");
        publish(x, 2, "m3");
        publish(x, 3, "4");
        x.retire(2);
        same("the latest", x.latest(2), NONE);
        same("the latest of another", x.latest(3), 2);
        bits("the output of the old one", x.out(3, 0), 4f);
        says("`model`: 0 to 5");
        FlumeRegistry y = write(new FlumeRegistry(), "1");
        for (int model = 0; model <= 5; model++) {
            y.publish(model);
        }
        for (int model = 0; model <= 5; model++) {
            same("what is retired of the model " + model, y.retire(model), model);
        }
        says("Returns that version.");
        same("the latest one", x.retire(3), 2);
        publish(x, 2, "7");
        same("the latest one", x.retire(2), 4);
        says("Throws `IndexOutOfBoundsException` if there is no such model");
        for (int model : NO_MODEL) {
            fails("retire of the model " + model, INDEX, () -> x.retire(model));
        }
        says("Throws `IllegalStateException` if it has no latest version, or another model rests on it");
        part("Throws `IllegalStateException` if it has no latest version");
        fails("one that never had one", STATE, () -> x.retire(0));
        fails("one that was retired", STATE, () -> x.retire(3));
        part("another model rests on it");
        FlumeRegistry z = new FlumeRegistry();
        publish(z, 0, "1");
        publish(z, 4, "q0");
        publish(z, 2, "m4");
        fails("by its text", STATE, () -> z.retire(4));
        fails("by one between", STATE, () -> z.retire(0));
        same("the one on top", z.retire(2), 2);
        same("the one below it then", z.retire(4), 1);
        same("the last one", z.retire(0), 0);
    }

    private static void latest() {
        says("`int latest(int model) throws IndexOutOfBoundsException`: Returns the latest version of a model.");
        FlumeRegistry x = new FlumeRegistry();
        publish(x, 1, "1");
        publish(x, 3, "m1");
        publish(x, 1, "2");
        same("the one that was published", x.latest(1), 2);
        same("the one that was bound anew", x.latest(3), 3);
        says("`model`: 0 to 5");
        FlumeRegistry y = write(new FlumeRegistry(), "1");
        for (int model = 5; model >= 0; model--) {
            y.publish(model);
            same("the latest of the model " + model, y.latest(model), 5 - model);
        }
        says("Returns the version; NONE if there is none.");
        same("one that never had one", x.latest(0), NONE);
        x.retire(3);
        same("one that was retired", x.latest(3), NONE);
        same("one that has one", x.latest(1), 2);
        says("Throws `IndexOutOfBoundsException` if there is no such model");
        for (int model : NO_MODEL) {
            fails("latest of the model " + model, INDEX, () -> x.latest(model));
        }
    }

    private static void pin() {
        says("`int pin(int version, int model) throws IndexOutOfBoundsException`: Returns the version of a model that a version pins.");
        FlumeRegistry x = new FlumeRegistry();
        publish(x, 1, "1");
        publish(x, 5, "5");
        publish(x, 2, "m1+q5");
        same("a pin", x.pin(2, 1), 0);
        same("a pin", x.pin(2, 5), 1);
        says("`version`: the number of a version");
        publish(x, 5, "6");
        same("that of the one before", x.pin(2, 5), 1);
        same("that of the one that was bound anew", x.pin(4, 5), 3);
        same("that of the first one", x.pin(0, 1), NONE);
        says("`model`: 0 to 5");
        FlumeRegistry y = new FlumeRegistry();
        for (int model = 0; model <= 5; model++) {
            publish(y, model, "1");
        }
        int low = publish(y, 5, "m0+m1+m2+m3+m4");
        for (int model = 0; model <= 5; model++) {
            same("the pin of the model " + model, y.pin(low, model), model < 5 ? model : NONE);
        }
        publish(y, 5, "1");
        same("the pin of the model 5", y.pin(publish(y, 0, "q5"), 5), 7);
        says("Returns the version; NONE if it pins none of this model.");
        same("one that its text does not name", x.pin(4, 0), NONE);
        same("its own model", x.pin(4, 2), NONE);
        publish(x, 3, "m2");
        same("one that is pinned by the one that it pins", x.pin(5, 1), NONE);
        same("the one that it pins", x.pin(5, 2), 4);
        says("Throws `IndexOutOfBoundsException` if there is no such version or model");
        for (int version : new int[] {-1, 6, 60, LEAST, MOST}) {
            fails("pin of the version " + version, INDEX, () -> x.pin(version, 0));
        }
        for (int model : NO_MODEL) {
            fails("pin of the model " + model, INDEX, () -> x.pin(2, model));
        }
    }

    private static void rain() {
        says("`int rain(int gauge, int hour, int millimetres) throws IndexOutOfBoundsException, IllegalArgumentException`: "
            + "Tells a rain, in place of what was told before, 0 at first.");
        part("`int rain(int gauge, int hour, int millimetres) throws IndexOutOfBoundsException, IllegalArgumentException`: Tells a rain");
        FlumeRegistry x = new FlumeRegistry();
        publish(x, 0, "g1");
        x.rain(1, 4, 70);
        bits("the rain", x.out(0, 4), 70f);
        part("in place of what was told before");
        x.rain(1, 4, 8);
        bits("the rain", x.out(0, 4), 8f);
        part("0 at first");
        bits("a rain that was not told", x.out(0, 5), 0f);
        same("a rain that was not told", x.rain(2, 4, 1), 0);
        says("`gauge`: 0 to 2");
        for (int gauge = 0; gauge <= 2; gauge++) {
            x.rain(gauge, 9, gauge + 3);
        }
        for (int gauge = 0; gauge <= 2; gauge++) {
            same("the rain of the gauge " + gauge, x.rain(gauge, 9, 0), gauge + 3);
        }
        says("`hour`: 0 to 200");
        for (int hour : new int[] {0, 1, 199, 200}) {
            x.rain(0, hour, hour + 5);
        }
        for (int hour : new int[] {0, 1, 199, 200}) {
            same("the rain of the hour " + hour, x.rain(0, hour, 0), hour + 5);
        }
        x.pass(9);
        same("a rain of an hour that has passed", x.rain(1, 4, 7), 8);
        says("`millimetres`: 0 to 500");
        for (int millimetres : new int[] {500, 499, 1, 0}) {
            x.rain(1, 4, millimetres);
            bits("the rain", x.out(0, 4), millimetres);
        }
        says("Returns what was told before.");
        same("none", x.rain(2, 77, 6), 0);
        same("the first", x.rain(2, 77, 5), 6);
        same("the second", x.rain(2, 77, 5), 5);
        same("the third", x.rain(2, 77, 4), 5);
        says("Throws `IndexOutOfBoundsException` if there is no such gauge");
        for (int gauge : NO_THIRD) {
            fails("rain of the gauge " + gauge, INDEX, () -> x.rain(gauge, 0, 1));
            fails("the same in no hour", INDEX, () -> x.rain(gauge, 201, -1));
        }
        says("Throws `IllegalArgumentException` if hour or millimetres is out of range");
        for (int hour : NO_HOUR) {
            fails("rain in the hour " + hour, ARGUMENT, () -> x.rain(0, hour, 1));
        }
        for (int millimetres : new int[] {-1, 501, LEAST, MOST}) {
            fails("rain of " + millimetres, ARGUMENT, () -> x.rain(2, 77, millimetres));
        }
        same("what was told before", x.rain(2, 77, 0), 4);
    }

    private static void out() {
        says("`int out(int version, int hour) throws IndexOutOfBoundsException, IllegalArgumentException`: "
            + "Returns the output of a version in an hour, by what is kept.");
        FlumeRegistry x = new FlumeRegistry();
        publish(x, 0, "p+g0");
        publish(x, 1, "m0*2+g1");
        x.rain(0, 2, 10);
        bits("the output", x.out(1, 3), 20f);
        x.rain(0, 2, 11);
        bits("with another rain of an hour before", x.out(1, 3), 22f);
        x.rain(1, 3, 5);
        bits("with another rain of the hour", x.out(1, 3), 27f);
        x.rain(0, 4, 99);
        bits("with another rain of an hour behind", x.out(1, 3), 27f);
        bits("in the hour before", x.out(1, 2), 22f);
        says("`version`: the number of a version, the latest one or not");
        publish(x, 0, "g0");
        bits("one that is the latest no more", x.out(1, 3), 27f);
        bits("the latest one", x.out(3, 3), 5f);
        x.retire(1);
        bits("one of a model that was retired", x.out(3, 2), 22f);
        says("`hour`: 0 to 200");
        publish(x, 2, "h+1");
        for (int hour : new int[] {200, 0, 1, 199}) {
            bits("the hour " + hour, x.out(4, hour), hour + 1);
        }
        says("Returns its bits.");
        same("those of 1f", x.out(4, 0), 0x3f800000);
        same("those of 0f", x.out(2, 0), 0);
        publish(x, 2, "0-0.75");
        same("those of -0.75f", x.out(5, 0), 0xbf400000);
        says("Throws `IndexOutOfBoundsException` if there is no such version");
        for (int version : new int[] {-1, 6, 60, LEAST, MOST}) {
            fails("out of the version " + version, INDEX, () -> x.out(version, 0));
            fails("the same in no hour", INDEX, () -> x.out(version, -1));
        }
        fails("out of a new object", INDEX, () -> new FlumeRegistry().out(0, 0));
        says("Throws `IllegalArgumentException` if hour is out of range");
        for (int hour : NO_HOUR) {
            fails("out in the hour " + hour, ARGUMENT, () -> x.out(0, hour));
        }
    }

    private static void outAnew() {
        says("`int outAnew(int version, int hour) throws IndexOutOfBoundsException, IllegalArgumentException`: "
            + "Returns the same, found anew from the hour 0 on, for this version and all that it rests on.");
        FlumeRegistry x = new FlumeRegistry();
        publish(x, 0, "p/3+g0");
        publish(x, 1, "p+m0*2-q0");
        x.rain(0, 0, 100);
        bits("before it was asked for by what is kept", x.outAnew(1, 1), 200f + 2f * (100f / 3f) - 100f);
        for (int hour = 0; hour < 30; hour++) {
            x.rain(0, hour * 7 % 30, hour + 1);
            same("the same as by what is kept", x.outAnew(1, hour), x.out(1, hour));
        }
        says("`version`: the number of a version");
        publish(x, 0, "7");
        x.rain(0, 0, 9);
        bits("the one before", x.outAnew(0, 0), 9f);
        bits("the latest one", x.outAnew(2, 0), 7f);
        bits("one that was bound anew", x.outAnew(3, 1), 14f + 7f);
        says("`hour`: 0 to 200");
        publish(x, 2, "h+1");
        for (int hour : new int[] {200, 0, 1, 199}) {
            bits("the hour " + hour, x.outAnew(4, hour), hour + 1);
        }
        says("Returns its bits.");
        same("those of 1f", x.outAnew(4, 0), 0x3f800000);
        x.rain(0, 0, 0);
        same("those of 0f", x.outAnew(0, 0), 0);
        publish(x, 2, "0-0.75");
        same("those of -0.75f", x.outAnew(5, 0), 0xbf400000);
        says("Throws `IndexOutOfBoundsException` if there is no such version");
        for (int version : new int[] {-1, 6, 60, LEAST, MOST}) {
            fails("outAnew of the version " + version, INDEX, () -> x.outAnew(version, 0));
            fails("the same in no hour", INDEX, () -> x.outAnew(version, -1));
        }
        says("Throws `IllegalArgumentException` if hour is out of range");
        for (int hour : NO_HOUR) {
            fails("outAnew in the hour " + hour, ARGUMENT, () -> x.outAnew(0, hour));
        }
    }

    private static void run() {
        says("`int run(int model, int hours) throws IndexOutOfBoundsException, IllegalArgumentException, IllegalStateException`: "
            + "Makes a run of the latest version of a model, from now on.");
        FlumeRegistry x = new FlumeRegistry();
        publish(x, 0, "5");
        publish(x, 0, "i(h,20-h,90)");
        x.pass(2);
        x.run(0, 9);
        bits("the peak of the latest version", x.peak(0), 18f);
        same("it is that of now", x.peakHour(0), 2);
        says("`model`: 0 to 5");
        FlumeRegistry y = new FlumeRegistry();
        for (int model = 0; model <= 5; model++) {
            publish(y, model, "10+" + model);
        }
        for (int model = 0; model <= 5; model++) {
            bits("the peak of the model " + model, y.peak(y.run(model, 1)), 10 + model);
        }
        says("`hours`: 1 to 48: by how many hours its last one is later than now");
        publish(y, 0, "h");
        for (int hours : new int[] {1, 2, 24, 47, 48}) {
            bits("the peak, which is that of its last hour", y.peak(y.run(0, hours)), hours);
        }
        y.pass(7);
        bits("the peak, seven hours later", y.peak(y.run(0, 3)), 10f);
        says("Returns its number.");
        same("the next one", y.run(1, 1), 12);
        same("the next one", y.run(5, 1), 13);
        same("that of another object", x.run(0, 1), 1);
        says("Throws `IndexOutOfBoundsException` if there is no such model");
        for (int model : NO_MODEL) {
            fails("run of the model " + model, INDEX, () -> x.run(model, 1));
            fails("the same for no hours", INDEX, () -> x.run(model, 0));
        }
        says("Throws `IllegalArgumentException` if hours is out of range");
        for (int hours : new int[] {0, -1, 49, LEAST, MOST}) {
            fails("run for the hours " + hours, ARGUMENT, () -> x.run(0, hours));
            fails("the same of no version", ARGUMENT, () -> x.run(5, hours));
        }
        same("the number of the next one", x.run(0, 1), 2);
    }

    private static void refusedToRun() {
        says("Throws `IllegalStateException` if the model has no latest version, the last hour would be above 200, or there are 40");
        part("Throws `IllegalStateException` if the model has no latest version");
        FlumeRegistry x = new FlumeRegistry();
        fails("one that never had one", STATE, () -> x.run(0, 1));
        publish(x, 0, "1");
        same("one that has one", x.run(0, 1), 0);
        x.retire(0);
        fails("one that was retired", STATE, () -> x.run(0, 1));
        part("the last hour would be above 200");
        publish(x, 0, "1");
        later(x, 153);
        fails("the hour 201", STATE, () -> x.run(0, 48));
        same("the hour 200", x.run(0, 47), 1);
        later(x, 46);
        fails("the hour 201", STATE, () -> x.run(0, 2));
        same("the hour 200", x.run(0, 1), 2);
        x.pass(1);
        fails("the hour 201", STATE, () -> x.run(0, 1));
        part("there are 40");
        FlumeRegistry y = new FlumeRegistry();
        publish(y, 0, "1");
        for (int number = 0; number < 40; number++) {
            same("the run", y.run(0, 1), number);
        }
        fails("the 41st", STATE, () -> y.run(0, 1));
    }

    private static void why() {
        says("`int why(int run) throws IndexOutOfBoundsException`: Tells whether a run stands, and what is against it.");
        part("`int why(int run) throws IndexOutOfBoundsException`: Tells whether a run stands");
        FlumeRegistry x = new FlumeRegistry();
        publish(x, 0, "g0");
        publish(x, 1, "m0");
        x.run(0, 2);
        x.run(1, 2);
        same("one that stands", x.why(0), STANDS);
        part("what is against it");
        x.rain(0, 2, 1);
        same("a rain", x.why(0), RAINED);
        publish(x, 1, "1");
        same("a mended model", x.why(1), MENDED);
        says("`run`: the number of a run");
        x.run(1, 2);
        same("the first one", x.why(0), RAINED);
        same("the second one", x.why(1), MENDED);
        same("the third one", x.why(2), STANDS);
        says("Returns STANDS, MENDED or RAINED.");
        same("STANDS", x.why(2), 0);
        same("MENDED", x.why(1), 1);
        same("RAINED", x.why(0), 2);
        says("Throws `IndexOutOfBoundsException` if there is no such run");
        for (int run : new int[] {-1, 3, 40, LEAST, MOST}) {
            fails("why of the run " + run, INDEX, () -> x.why(run));
        }
        fails("why of a new object", INDEX, () -> new FlumeRegistry().why(0));
    }

    private static FlumeRegistry ofRain() {
        FlumeRegistry x = new FlumeRegistry();
        publish(x, 0, "g0");
        x.rain(0, 3, 20);
        x.rain(0, 5, 20);
        x.rain(0, 9, 30);
        return x;
    }

    private static void peak() {
        says("`int peak(int run) throws IndexOutOfBoundsException`: Returns the peak of a run, as it was found.");
        FlumeRegistry x = ofRain();
        x.run(0, 8);
        bits("the peak", x.peak(0), 20f);
        x.rain(0, 4, 70);
        bits("the peak behind another rain", x.peak(0), 20f);
        publish(x, 0, "1");
        bits("the peak behind a mended model", x.peak(0), 20f);
        x.pass(20);
        bits("the peak when its hours have passed", x.peak(0), 20f);
        says("`run`: the number of a run");
        x.run(0, 1);
        publish(x, 0, "2");
        x.run(0, 1);
        bits("the first one", x.peak(0), 20f);
        bits("the second one", x.peak(1), 1f);
        bits("the third one", x.peak(2), 2f);
        says("Returns its bits.");
        same("those of 1f", x.peak(1), 0x3f800000);
        publish(x, 0, "0-0.75");
        same("those of -0.75f", x.peak(x.run(0, 1)), 0xbf400000);
        says("Throws `IndexOutOfBoundsException` if there is no such run");
        for (int run : new int[] {-1, 4, 40, LEAST, MOST}) {
            fails("peak of the run " + run, INDEX, () -> x.peak(run));
        }
        fails("peak of a new object", INDEX, () -> new FlumeRegistry().peak(0));
    }

    private static void peakHour() {
        says("`int peakHour(int run) throws IndexOutOfBoundsException`: Returns the first hour of a run with its peak.");
        FlumeRegistry x = ofRain();
        x.run(0, 8);
        same("the first one of two", x.peakHour(0), 3);
        x.run(0, 9);
        same("the last one", x.peakHour(1), 9);
        x.run(0, 2);
        same("the first hour of the run", x.peakHour(2), 0);
        x.pass(4);
        x.run(0, 3);
        same("the first one of those that are left", x.peakHour(3), 5);
        x.rain(0, 4, 70);
        same("the same behind another rain", x.peakHour(3), 5);
        says("`run`: the number of a run");
        x.run(0, 1);
        int[] hours = {3, 9, 0, 5, 4};
        for (int run = 0; run < 5; run++) {
            same("the hour of the run " + run, x.peakHour(run), hours[run]);
        }
        says("Throws `IndexOutOfBoundsException` if there is no such run");
        for (int run : new int[] {-1, 5, 40, LEAST, MOST}) {
            fails("peakHour of the run " + run, INDEX, () -> x.peakHour(run));
        }
        fails("peakHour of a new object", INDEX, () -> new FlumeRegistry().peakHour(0));
    }

    private static void peakAnew() {
        says("`int peakAnew(int run) throws IndexOutOfBoundsException`: Returns the peak that a run of the same version for the same hours would have, "
            + "with the rains of now, found anew.");
        part("`int peakAnew(int run) throws IndexOutOfBoundsException`: Returns the peak that a run of the same version for the same hours would have");
        FlumeRegistry x = ofRain();
        x.pass(4);
        x.run(0, 4);
        bits("at first", x.peakAnew(0), 20f);
        publish(x, 0, "1");
        bits("of the same version", x.peakAnew(0), 20f);
        x.pass(9);
        bits("for the same hours", x.peakAnew(0), 20f);
        part("with the rains of now");
        x.rain(0, 5, 6);
        bits("one is less", x.peakAnew(0), 6f);
        x.rain(0, 8, 7);
        bits("one is greater, in its last hour", x.peakAnew(0), 7f);
        x.rain(0, 4, 8);
        bits("one is greater, in its first hour", x.peakAnew(0), 8f);
        part("found anew");
        x.rain(0, 3, 99);
        x.rain(0, 9, 99);
        bits("with rains in front and behind", x.peakAnew(0), 8f);
        bits("the peak as it was found", x.peak(0), 20f);
        same("why", x.why(0), MENDED);
        says("`run`: the number of a run");
        x.run(0, 1);
        bits("the first one", x.peakAnew(0), 8f);
        bits("the second one", x.peakAnew(1), 1f);
        bits("the first one again", x.peakAnew(0), 8f);
        says("Returns its bits.");
        same("those of 1f", x.peakAnew(1), 0x3f800000);
        publish(x, 0, "0-0.75");
        same("those of -0.75f", x.peakAnew(x.run(0, 1)), 0xbf400000);
        says("Throws `IndexOutOfBoundsException` if there is no such run");
        for (int run : new int[] {-1, 3, 40, LEAST, MOST}) {
            fails("peakAnew of the run " + run, INDEX, () -> x.peakAnew(run));
        }
        fails("peakAnew of a new object", INDEX, () -> new FlumeRegistry().peakAnew(0));
    }

    private static void build() {
        says("`void build(int dam, int model, int capacity) throws IndexOutOfBoundsException, IllegalArgumentException, IllegalStateException`: "
            + "Builds a dam, without a rule and a run.");
        FlumeRegistry x = new FlumeRegistry();
        publish(x, 0, "9");
        x.run(0, 1);
        write(x, "r+l");
        x.build(0, 0, 100);
        x.pass(2);
        bits("below, without a rule", x.below(0, 1), 0f);
        rule(x, 0, "r+1");
        x.pass(1);
        bits("below, without a run", x.below(0, 2), 1f);
        says("`dam`: 0 to 2");
        FlumeRegistry y = new FlumeRegistry();
        for (int model = 0; model <= 5; model++) {
            publish(y, model, "10+" + model);
        }
        for (int dam = 0; dam <= 2; dam++) {
            y.build(dam, 5, 100);
        }
        y.pass(1);
        for (int dam = 0; dam <= 2; dam++) {
            bits("the level of the dam " + dam, y.level(dam), 15f);
        }
        says("`model`: 0 to 5");
        for (int model = 0; model <= 5; model++) {
            FlumeRegistry z = new FlumeRegistry();
            publish(z, model, "10+" + model);
            z.build(1, model, 100);
            z.pass(1);
            bits("the level by the model " + model, z.level(1), 10 + model);
        }
        says("`capacity`: 1 to 100000");
        for (int capacity : new int[] {1, 2, 99999, 100000}) {
            FlumeRegistry z = new FlumeRegistry();
            publish(z, 0, "999*999");
            z.build(0, 0, capacity);
            z.pass(1);
            bits("the level by the capacity " + capacity, z.level(0), capacity);
        }
        says("Throws `IndexOutOfBoundsException` if there is no such dam or model");
        FlumeRegistry w = new FlumeRegistry();
        for (int dam : NO_THIRD) {
            fails("build of the dam " + dam, INDEX, () -> w.build(dam, 0, 1));
            fails("the same without a capacity", INDEX, () -> w.build(dam, 0, 0));
        }
        for (int model : NO_MODEL) {
            fails("build for the model " + model, INDEX, () -> w.build(0, model, 1));
            fails("the same without a capacity", INDEX, () -> w.build(0, model, 0));
        }
        says("Throws `IllegalArgumentException` if capacity is out of range");
        for (int capacity : new int[] {0, -1, 100001, LEAST, MOST}) {
            fails("build with the capacity " + capacity, ARGUMENT, () -> w.build(0, 0, capacity));
            fails("the same again", ARGUMENT, () -> x.build(0, 0, capacity));
        }
        fails("the dam is not built", STATE, () -> w.valley(0, 1, 1, 1));
        says("Throws `IllegalStateException` if it is built");
        fails("build again", STATE, () -> x.build(0, 0, 100));
        fails("build again for another model", STATE, () -> x.build(0, 5, 1));
        x.build(1, 0, 1);
        fails("build another one again", STATE, () -> x.build(1, 0, 1));
    }

    private static FlumeRegistry dam(String text) {
        FlumeRegistry x = new FlumeRegistry();
        publish(x, 0, text);
        x.build(0, 0, 1000);
        return x;
    }

    private static void rule() {
        says("`void rule(int dam) throws IndexOutOfBoundsException, IllegalArgumentException, IllegalStateException`: "
            + "Gives a dam the text as its rule; the text stays.");
        FlumeRegistry x = dam("10");
        rule(x, 0, "2");
        x.pass(1);
        bits("below, by a rule", x.below(0, 0), 2f);
        same("the text stays", x.wipe(), 1);
        rule(x, 0, "h+2");
        write(x, "5");
        x.pass(1);
        bits("below, by the next one", x.below(0, 1), 3f);
        says("`dam`: 0 to 2");
        x.build(1, 0, 1000);
        x.build(2, 0, 1000);
        for (int dam = 0; dam <= 2; dam++) {
            rule(x, dam, "3+" + dam);
        }
        x.pass(1);
        for (int dam = 0; dam <= 2; dam++) {
            bits("below the dam " + dam, x.below(dam, 2), 3 + dam);
        }
        says("Throws `IndexOutOfBoundsException` if there is no such dam");
        for (int dam : NO_THIRD) {
            fails("rule of the dam " + dam, INDEX, () -> write(x, "1").rule(dam));
            fails("the same with no text", INDEX, () -> write(x, "").rule(dam));
        }
        says("Throws `IllegalArgumentException` if the text is no rule");
        FlumeRegistry y = new FlumeRegistry();
        for (String text : new String[] {"", "1+", "p", "g0", "m1*2", "q1", ")", "x(1)", "lf"}) {
            fails("the rule " + text, ARGUMENT, () -> rule(x, 0, text));
            fails("the same of a dam that is not built", ARGUMENT, () -> rule(y, 0, text));
        }
        x.pass(1);
        bits("below, by the one before", x.below(0, 3), 3f);
        says("Throws `IllegalStateException` if it is not built");
        for (int dam = 0; dam <= 2; dam++) {
            int of = dam;
            fails("the rule of the dam " + dam, STATE, () -> write(y, "1").rule(of));
        }
    }

    private static void goBy() {
        says("`void goBy(int dam, int run) throws IndexOutOfBoundsException, IllegalStateException`: "
            + "Lets a dam go by a run, in place of the one before.");
        part("`void goBy(int dam, int run) throws IndexOutOfBoundsException, IllegalStateException`: Lets a dam go by a run");
        FlumeRegistry x = dam("h+5");
        rule(x, 0, "r/4");
        x.run(0, 5);
        x.run(0, 9);
        x.goBy(0, 0);
        x.pass(1);
        x.pass(1);
        bits("below", x.below(0, 1), 10f / 4f);
        part("in place of the one before");
        x.goBy(0, 1);
        x.pass(1);
        bits("below", x.below(0, 2), 14f / 4f);
        x.goBy(0, 0);
        x.pass(1);
        bits("below", x.below(0, 3), 10f / 4f);
        says("`dam`: 0 to 2");
        x.build(1, 0, 1000);
        x.build(2, 0, 1000);
        rule(x, 1, "r/5");
        rule(x, 2, "r/7");
        x.goBy(2, 0);
        x.goBy(1, 1);
        x.pass(2);
        bits("below the dam 0", x.below(0, 5), 10f / 4f);
        bits("below the dam 1", x.below(1, 5), 14f / 5f);
        bits("below the dam 2", x.below(2, 5), 10f / 7f);
        says("`run`: the number of a run");
        publish(x, 1, "1");
        x.run(1, 1);
        x.run(0, 20);
        x.goBy(0, 3);
        x.pass(1);
        bits("below", x.below(0, 6), 31f / 4f);
        says("Throws `IndexOutOfBoundsException` if there is no such dam or run");
        for (int dam : NO_THIRD) {
            fails("goBy of the dam " + dam, INDEX, () -> x.goBy(dam, 0));
        }
        for (int run : new int[] {-1, 4, 40, LEAST, MOST}) {
            fails("goBy of the run " + run, INDEX, () -> x.goBy(0, run));
            fails("the same of a dam that is not built", INDEX, () -> new FlumeRegistry().goBy(0, run));
        }
        says("Throws `IllegalStateException` if the dam is not built, the run does not stand, or is of another model than that of the dam");
        part("Throws `IllegalStateException` if the dam is not built");
        FlumeRegistry y = new FlumeRegistry();
        publish(y, 0, "g0+1");
        publish(y, 1, "g0+2");
        y.run(0, 3);
        y.run(1, 3);
        fails("a dam that is not built", STATE, () -> y.goBy(0, 0));
        y.build(0, 0, 1000);
        part("the run does not stand");
        y.rain(0, 3, 1);
        fails("one with another rain", STATE, () -> y.goBy(0, 0));
        y.rain(0, 3, 0);
        fails("one with a rain told back", STATE, () -> y.goBy(0, 0));
        y.run(0, 3);
        y.goBy(0, 2);
        y.run(0, 4);
        publish(y, 0, "g0+1");
        fails("one that is mended", STATE, () -> y.goBy(0, 3));
        part("is of another model than that of the dam");
        y.run(1, 3);
        fails("one of another model", STATE, () -> y.goBy(0, 4));
        y.build(1, 1, 10);
        y.goBy(1, 4);
        rule(y, 1, "r");
        y.pass(1);
        bits("below the dam of that model", y.below(1, 0), 2f);
    }

    private static void level() {
        says("`int level(int dam) throws IndexOutOfBoundsException`: Returns the level of a dam.");
        FlumeRegistry x = dam("h*2");
        x.pass(3);
        bits("the level", x.level(0), 6f);
        rule(x, 0, "l");
        x.pass(1);
        bits("the level", x.level(0), 6f);
        says("`dam`: 0 to 2");
        publish(x, 1, "0.5");
        x.build(1, 1, 10);
        x.build(2, 0, 7);
        x.pass(1);
        bits("the level of the dam 0", x.level(0), 8f);
        bits("the level of the dam 1", x.level(1), 0.5f);
        bits("the level of the dam 2", x.level(2), 7f);
        says("Returns its bits; those of 0f if it is not built.");
        part("Returns its bits");
        same("those of 8f", x.level(0), 0x41000000);
        same("those of 0.5f", x.level(1), 0x3f000000);
        part("those of 0f if it is not built");
        FlumeRegistry y = new FlumeRegistry();
        publish(y, 0, "5");
        for (int dam = 0; dam <= 2; dam++) {
            same("the level of one that is not built", y.level(dam), 0);
        }
        y.pass(3);
        same("the level of one that is not built", y.level(0), 0);
        says("Throws `IndexOutOfBoundsException` if there is no such dam");
        for (int dam : NO_THIRD) {
            fails("level of the dam " + dam, INDEX, () -> x.level(dam));
        }
    }

    private static void below() {
        says("`int below(int dam, int hour) throws IndexOutOfBoundsException, IllegalArgumentException`: Returns what was below a dam in an hour.");
        FlumeRegistry x = dam("10");
        rule(x, 0, "h");
        x.pass(4);
        for (int hour = 0; hour < 4; hour++) {
            bits("below in the hour " + hour, x.below(0, hour), hour);
        }
        says("`dam`: 0 to 2");
        x.build(1, 0, 1);
        x.build(2, 0, 3);
        x.pass(1);
        bits("below the dam 0", x.below(0, 4), 4f);
        bits("below the dam 1", x.below(1, 4), 9f);
        bits("below the dam 2", x.below(2, 4), 7f);
        says("`hour`: 0 to the hour of now, less 1");
        FlumeRegistry y = dam("10");
        fails("the hour 0 in the hour 0", ARGUMENT, () -> y.below(0, 0));
        rule(y, 0, "f+h");
        for (int now = 1; now <= 3; now++) {
            int of = y.pass(1);
            bits("the hour before", y.below(0, of - 1), of == 1 ? 10f : 10f);
            fails("the hour of now", ARGUMENT, () -> y.below(0, of));
        }
        later(y, 197);
        bits("the hour 199", y.below(0, 199), 10f);
        fails("the hour 200", ARGUMENT, () -> y.below(0, 200));
        says("Returns its bits; those of 0f if it was not built then.");
        part("Returns its bits");
        same("those of 9f", x.below(1, 4), 0x41100000);
        same("those of 0f", x.below(0, 0), 0);
        part("those of 0f if it was not built then");
        for (int hour = 0; hour < 4; hour++) {
            same("below one that was built later", x.below(1, hour), 0);
        }
        same("below one that was never built", y.below(2, 100), 0);
        says("Throws `IndexOutOfBoundsException` if there is no such dam");
        for (int dam : NO_THIRD) {
            fails("below of the dam " + dam, INDEX, () -> x.below(dam, 0));
            fails("the same in no hour", INDEX, () -> x.below(dam, 5));
        }
        says("Throws `IllegalArgumentException` if hour is out of range");
        for (int hour : new int[] {-1, 5, 6, 200, 201, LEAST, MOST}) {
            fails("below in the hour " + hour, ARGUMENT, () -> x.below(0, hour));
            fails("the same of one that was never built", ARGUMENT, () -> new FlumeRegistry().below(0, hour));
        }
    }

    /** A valley whose danger is 40, below a dam that lets through what rains at gauge 0. */
    private static FlumeRegistry valley(int people, int walking) {
        FlumeRegistry x = dam("g0");
        rule(x, 0, "l+f");
        x.valley(0, people, 40, walking);
        return x;
    }

    /** The same, with a siren that rests on a run to an hour with a rain of 40. */
    private static FlumeRegistry ringing(int people, int walking, int hours) {
        FlumeRegistry x = valley(people, walking);
        x.rain(0, hours, 40);
        x.sound(0, x.run(0, hours));
        return x;
    }

    private static void valley() {
        says("`void valley(int dam, int people, int danger, int hours) throws IndexOutOfBoundsException, IllegalArgumentException, IllegalStateException`: "
            + "Tells the valley below a dam, in place of what was told before; its trust stays.");
        part("`void valley(int dam, int people, int danger, int hours) throws IndexOutOfBoundsException, IllegalArgumentException, IllegalStateException`: "
            + "Tells the valley below a dam");
        FlumeRegistry x = ringing(70, 0, 1);
        same("those who walk", x.walkers(0), 70);
        rule(x, 0, "0");
        x.pass(2);
        same("the siren", x.siren(0), WRONG);
        part("in place of what was told before");
        x.valley(0, 200, 41, 3);
        fails("a siren, with a peak that is less than the danger of now", STATE, () -> x.sound(0, 0));
        x.valley(0, 200, 40, 3);
        x.sound(0, 0);
        same("those who walk", x.walkers(1), 150);
        part("its trust stays");
        bits("the trust", x.trust(0), 0.75f);
        says("`dam`: 0 to 2");
        FlumeRegistry y = dam("30");
        y.build(1, 0, 1);
        y.build(2, 0, 1);
        y.run(0, 1);
        for (int dam = 0; dam <= 2; dam++) {
            y.valley(dam, 5 + dam, 30, 0);
            same("those who walk below the dam " + dam, y.walkers(y.sound(dam, 0)), 5 + dam);
        }
        says("`people`: 0 to 10000");
        for (int people : new int[] {0, 1, 9999, 10000}) {
            FlumeRegistry z = ringing(people, 0, 1);
            same("those who walk", z.walkers(0), people);
        }
        says("`danger`: 1 to 100000");
        int[] dangers = {1, 2, 99999, 100000};
        String[] texts = {"1", "2", "(999+1)*100-1", "(999+1)*100"};
        for (int at = 0; at < dangers.length; at++) {
            FlumeRegistry z = dam(texts[at]);
            z.valley(0, 1, dangers[at], 0);
            same("the alarm by a peak of " + dangers[at], z.alarm(), 1);
            publish(z, 0, texts[at] + "-0.05");
            same("the alarm by less", z.alarm(), 0);
        }
        says("`hours`: 0 to 12: that they need for walking");
        for (int walking = 0; walking <= 12; walking++) {
            FlumeRegistry enough = ringing(9, walking, Math.max(walking, 1));
            enough.pass(13);
            same("saved by as many hours", enough.saved(0), 9);
            FlumeRegistry few = ringing(9, walking, Math.max(walking - 1, 1));
            few.pass(13);
            same("saved by one hour less", few.saved(0), walking < 2 ? 9 : 0);
        }
        says("Throws `IndexOutOfBoundsException` if there is no such dam");
        for (int dam : NO_THIRD) {
            fails("valley of the dam " + dam, INDEX, () -> x.valley(dam, 1, 1, 1));
            fails("the same without a danger", INDEX, () -> x.valley(dam, 1, 0, 1));
        }
        refusedValleys(x);
    }

    private static void refusedValleys(FlumeRegistry x) {
        says("Throws `IllegalArgumentException` if people, danger or hours is out of range");
        part("Throws `IllegalArgumentException` if people");
        FlumeRegistry none = new FlumeRegistry();
        for (int people : new int[] {-1, 10001, LEAST, MOST}) {
            fails("valley with the people " + people, ARGUMENT, () -> x.valley(0, people, 1, 1));
            fails("the same of a dam that is not built", ARGUMENT, () -> none.valley(0, people, 1, 1));
        }
        part("danger");
        for (int danger : new int[] {0, -1, 100001, LEAST, MOST}) {
            fails("valley with the danger " + danger, ARGUMENT, () -> x.valley(0, 1, danger, 1));
        }
        part("hours is out of range");
        for (int hours : new int[] {-1, 13, LEAST, MOST}) {
            fails("valley with the hours " + hours, ARGUMENT, () -> x.valley(0, 1, 1, hours));
        }
        says("Throws `IllegalStateException` if the dam is not built");
        for (int dam = 0; dam <= 2; dam++) {
            int of = dam;
            fails("valley of the dam " + dam, STATE, () -> none.valley(of, 1, 1, 1));
        }
    }

    private static void sound() {
        says("`int sound(int dam, int run) throws IndexOutOfBoundsException, IllegalStateException`: Sounds a siren.");
        FlumeRegistry x = valley(100, 0);
        x.rain(0, 2, 40);
        x.run(0, 3);
        x.sound(0, 0);
        same("the siren", x.siren(0), RINGS);
        x.pass(3);
        same("the siren", x.siren(0), RIGHT);
        says("`dam`: 0 to 2");
        FlumeRegistry y = dam("30");
        y.build(1, 0, 1);
        y.build(2, 0, 1);
        for (int dam = 0; dam <= 2; dam++) {
            y.valley(dam, 5 + dam, 25, 0);
        }
        y.run(0, 1);
        for (int dam = 2; dam >= 0; dam--) {
            same("those who walk below the dam " + dam, y.walkers(y.sound(dam, 0)), 5 + dam);
        }
        says("`run`: the number of a run");
        FlumeRegistry z = valley(100, 0);
        z.rain(0, 1, 40);
        z.run(0, 1);
        z.run(0, 2);
        z.run(0, 3);
        rule(z, 0, "0");
        z.sound(0, 1);
        z.pass(2);
        same("the siren, by a run to the hour 2", z.siren(0), RINGS);
        z.pass(1);
        same("the siren, by a run to the hour 2", z.siren(0), WRONG);
        says("Returns the number of the siren.");
        same("the next one", z.sound(0, 2), 1);
        z.pass(1);
        same("the next one", z.sound(0, 0), 2);
        says("Throws `IndexOutOfBoundsException` if there is no such dam or run");
        for (int dam : NO_THIRD) {
            fails("sound of the dam " + dam, INDEX, () -> x.sound(dam, 0));
        }
        for (int run : new int[] {-1, 1, 40, LEAST, MOST}) {
            fails("sound of the run " + run, INDEX, () -> x.sound(0, run));
            fails("the same of a dam that is not built", INDEX, () -> new FlumeRegistry().sound(0, run));
        }
    }

    private static void refusedToSound() {
        says("Throws `IllegalStateException` if there is no valley, the run does not stand, is of another model than that of the dam, "
            + "or has a peak that is less than the danger; if a siren of the dam RINGS; or there are 60");
        part("Throws `IllegalStateException` if there is no valley");
        FlumeRegistry x = dam("g0+40");
        publish(x, 1, "50");
        x.run(0, 2);
        x.run(1, 2);
        fails("no valley", STATE, () -> x.sound(0, 0));
        fails("no dam that is built", STATE, () -> x.sound(1, 0));
        x.valley(0, 1, 40, 0);
        part("the run does not stand");
        x.rain(0, 2, 1);
        fails("one with another rain", STATE, () -> x.sound(0, 0));
        x.rain(0, 2, 0);
        fails("one with a rain told back", STATE, () -> x.sound(0, 0));
        x.run(0, 2);
        publish(x, 0, "g0+40");
        fails("one that is mended", STATE, () -> x.sound(0, 2));
        part("is of another model than that of the dam");
        fails("one of another model", STATE, () -> x.sound(0, 1));
        part("has a peak that is less than the danger");
        x.run(0, 2);
        x.valley(0, 1, 41, 0);
        fails("one that is less", STATE, () -> x.sound(0, 3));
        x.valley(0, 1, 40, 0);
        same("one that is not less", x.sound(0, 3), 0);
        part("if a siren of the dam RINGS");
        fails("one that RINGS", STATE, () -> x.sound(0, 3));
        x.build(1, 0, 1);
        x.valley(1, 1, 40, 0);
        same("the siren of another dam", x.sound(1, 3), 1);
        fails("one that RINGS", STATE, () -> x.sound(0, 3));
        rule(x, 0, "l+f");
        x.pass(1);
        same("the siren", x.siren(0), RIGHT);
        same("when it RINGS no more", x.sound(0, 3), 2);
        fails("when the other one RINGS still", STATE, () -> x.sound(1, 3));
        part("there are 60");
        FlumeRegistry y = valley(1, 0);
        publish(y, 0, "40");
        y.run(0, 1);
        for (int number = 0; number < 60; number++) {
            same("the siren", y.sound(0, 0), number);
            y.pass(1);
        }
        fails("the 61st", STATE, () -> y.sound(0, 0));
    }

    private static void siren() {
        says("`int siren(int siren) throws IndexOutOfBoundsException`: Returns what became of a siren.");
        FlumeRegistry x = ringing(1, 0, 1);
        same("at first", x.siren(0), RINGS);
        x.pass(1);
        same("in the next hour", x.siren(0), RINGS);
        x.pass(1);
        same("behind the flood", x.siren(0), RIGHT);
        says("`siren`: the number of a siren");
        x.sound(0, 0);
        x.pass(1);
        x.sound(0, 0);
        x.rain(0, 0, 1);
        x.pass(1);
        x.rain(0, 5, 40);
        x.sound(0, x.run(0, 5));
        int[] fates = {RIGHT, WRONG, WITHDRAWN, RINGS};
        for (int siren = 0; siren < 4; siren++) {
            same("the siren " + siren, x.siren(siren), fates[siren]);
        }
        says("Returns RINGS, RIGHT, WRONG or WITHDRAWN.");
        for (int siren = 0; siren < 4; siren++) {
            same("the siren " + siren, x.siren(siren), new int[] {1, 2, 3, 0}[siren]);
        }
        says("Throws `IndexOutOfBoundsException` if there is no such siren");
        for (int siren : new int[] {-1, 4, 60, LEAST, MOST}) {
            fails("the siren " + siren, INDEX, () -> x.siren(siren));
        }
        fails("the siren of a new object", INDEX, () -> new FlumeRegistry().siren(0));
    }

    private static void walkers() {
        says("`int walkers(int siren) throws IndexOutOfBoundsException`: Returns how many walk by a siren.");
        FlumeRegistry x = ringing(33, 0, 1);
        same("all", x.walkers(0), 33);
        rule(x, 0, "0");
        x.pass(2);
        same("all still, when it was wrong", x.walkers(0), 33);
        x.sound(0, 0);
        same("by the trust of then", x.walkers(1), (int) (33f * 0.75f));
        says("`siren`: the number of a siren");
        x.valley(0, 400, 40, 0);
        x.pass(1);
        x.sound(0, 0);
        int[] walking = {33, 24, 225};
        for (int siren = 0; siren < 3; siren++) {
            same("the siren " + siren, x.walkers(siren), walking[siren]);
        }
        says("Throws `IndexOutOfBoundsException` if there is no such siren");
        for (int siren : new int[] {-1, 3, 60, LEAST, MOST}) {
            fails("walkers of the siren " + siren, INDEX, () -> x.walkers(siren));
        }
        fails("walkers of a new object", INDEX, () -> new FlumeRegistry().walkers(0));
    }

    private static void trust() {
        says("`int trust(int dam) throws IndexOutOfBoundsException`: Returns the trust of a valley.");
        FlumeRegistry x = ringing(1, 0, 1);
        bits("at first", x.trust(0), 1f);
        rule(x, 0, "0");
        x.pass(2);
        bits("behind one that was wrong", x.trust(0), 0.75f);
        says("`dam`: 0 to 2");
        FlumeRegistry y = dam("g0");
        y.build(1, 0, 1);
        y.build(2, 0, 1);
        y.rain(0, 1, 40);
        y.run(0, 1);
        y.run(0, 2);
        for (int dam = 0; dam <= 2; dam++) {
            y.valley(dam, 1, 40 - dam, 0);
            y.sound(dam, dam == 1 ? 0 : 1);
        }
        y.rain(0, 2, 1);
        y.pass(2);
        bits("the trust of the dam 0", y.trust(0), 0.9f);
        bits("the trust of the dam 1, whose run stands", y.trust(1), 1f);
        bits("the trust of the dam 2", y.trust(2), 0.9f);
        says("Returns its bits.");
        same("those of 0.75f", x.trust(0), 0x3f400000);
        same("those of 1f", y.trust(1), 0x3f800000);
        same("those of 1f without a valley", x.trust(2), 0x3f800000);
        says("Throws `IndexOutOfBoundsException` if there is no such dam");
        for (int dam : NO_THIRD) {
            fails("trust of the dam " + dam, INDEX, () -> x.trust(dam));
        }
    }

    private static void saved() {
        says("`int saved(int dam) throws IndexOutOfBoundsException`: Returns how many were saved in a valley, by all sirens.");
        part("`int saved(int dam) throws IndexOutOfBoundsException`: Returns how many were saved in a valley");
        FlumeRegistry x = ringing(70, 1, 1);
        same("none at first", x.saved(0), 0);
        x.pass(2);
        same("all", x.saved(0), 70);
        part("by all sirens");
        x.valley(0, 5, 40, 1);
        same("when another valley was told", x.saved(0), 70);
        x.rain(0, 4, 40);
        x.sound(0, x.run(0, 9));
        x.pass(3);
        same("by both", x.saved(0), 75);
        x.rain(0, 5, 40);
        x.sound(0, x.run(0, 9));
        x.pass(1);
        same("by two of three", x.saved(0), 75);
        says("`dam`: 0 to 2");
        FlumeRegistry y = dam("30");
        y.build(1, 0, 1);
        y.build(2, 0, 1);
        y.run(0, 1);
        for (int dam = 1; dam <= 2; dam++) {
            y.valley(dam, 5 + dam, 29, 0);
            y.sound(dam, 0);
        }
        y.pass(1);
        for (int dam = 0; dam <= 2; dam++) {
            same("saved below the dam " + dam, y.saved(dam), dam > 0 ? 5 + dam : 0);
        }
        says("Throws `IndexOutOfBoundsException` if there is no such dam");
        for (int dam : NO_THIRD) {
            fails("saved of the dam " + dam, INDEX, () -> x.saved(dam));
        }
    }

    private static int alarmOf(int rainHour, int now) {
        FlumeRegistry x = valley(1, 0);
        x.rain(0, rainHour, 40);
        return later(x, now).alarm();
    }

    private static void alarm() {
        says("`int alarm()`: Returns the dams with a valley for which a run, made now for the next 24 hours (at most up to 200), would have a peak that is "
            + "not less than the danger, as a set: the bit d for the dam d.");
        part("`int alarm()`: Returns the dams with a valley for which a run");
        FlumeRegistry x = dam("g0");
        same("no valley", x.alarm(), 0);
        x.rain(0, 3, 40);
        same("no valley, though there is rain", x.alarm(), 0);
        x.valley(0, 0, 40, 12);
        same("a valley", x.alarm(), 1);
        x.retire(0);
        same("no latest version", x.alarm(), 0);
        publish(x, 0, "g0");
        part("made now for the next 24 hours");
        for (int now : new int[] {0, 10}) {
            same("an hour that has passed", now > 0 ? alarmOf(now - 1, now) : 0, 0);
            same("the hour of now", alarmOf(now, now), 1);
            same("the last one of 24 hours", alarmOf(now + 24, now), 1);
            same("the next one", alarmOf(now + 25, now), 0);
        }
        part("(at most up to 200)");
        for (int now : new int[] {176, 177, 190, 199}) {
            same("the hour 200", alarmOf(200, now), 1);
            same("an hour that has passed", alarmOf(now - 1, now), 0);
        }
        same("the hour 200 in the hour 175", alarmOf(200, 175), 0);
        same("the hour 200 in the hour 200", alarmOf(200, 200), 1);
        same("the hour 199 in the hour 200", alarmOf(199, 200), 0);
        part("would have a peak that is not less than the danger");
        x.valley(0, 0, 41, 12);
        same("less", x.alarm(), 0);
        x.valley(0, 0, 39, 12);
        same("greater", x.alarm(), 1);
        same("no run is made", x.run(0, 1), 0);
        part("as a set: the bit d for the dam d");
        publish(x, 1, "m0*2");
        x.build(1, 1, 1);
        x.build(2, 0, 1);
        x.valley(1, 0, 80, 0);
        same("two", x.alarm(), 3);
        x.valley(2, 0, 40, 0);
        same("three", x.alarm(), 7);
        x.valley(1, 0, 81, 0);
        same("the first and the last", x.alarm(), 5);
        x.valley(0, 0, 99, 0);
        same("the last", x.alarm(), 4);
    }

    private static void pass() {
        says("`int pass(int hours) throws IllegalArgumentException, IllegalStateException`: Lets hours pass.");
        FlumeRegistry x = dam("10");
        x.pass(2);
        bits("the level", x.level(0), 20f);
        x.pass(5);
        bits("the level", x.level(0), 70f);
        FlumeRegistry y = ringing(1, 0, 5);
        y.pass(6);
        same("the siren, judged in each hour", y.siren(0), RIGHT);
        says("`hours`: 1 to 24");
        FlumeRegistry z = new FlumeRegistry();
        int now = 0;
        for (int hours : new int[] {1, 2, 23, 24}) {
            now += hours;
            same("the hour of now", z.pass(hours), now);
        }
        says("Returns the hour of now then.");
        same("the hour of now", x.pass(1), 8);
        same("the hour of now", x.pass(2), 10);
        says("Throws `IllegalArgumentException` if hours is out of range");
        for (int hours : new int[] {0, -1, 25, LEAST, MOST}) {
            fails("pass of the hours " + hours, ARGUMENT, () -> x.pass(hours));
        }
        same("the hour of now", x.pass(1), 11);
        bits("the level", x.level(0), 110f);
        says("Throws `IllegalStateException` if it would be above 200");
        later(x, 178);
        fails("to the hour 213", STATE, () -> x.pass(24));
        fails("to the hour 201", STATE, () -> x.pass(12));
        bits("the level", x.level(0), 1000f);
        same("to the hour 200", x.pass(11), 200);
        fails("to the hour 201", STATE, () -> x.pass(1));
        fails("by 25 hours", ARGUMENT, () -> x.pass(25));
    }

    private static void notPromised() {
        asksNothing("How the state is held inside the object is free, as are the speed of each call, the text of toString and the behaviour of equals and hashCode.");
        asksNothing("Use of one object from several threads at once is not promised to be safe.");
        asksNothing("Nothing is promised beyond the answers and state changes described above, and nothing about an object after its 512th call.");
    }
}
