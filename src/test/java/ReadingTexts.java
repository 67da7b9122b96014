/** The document's head and its terms of texts, sentence by sentence, from its first line on. */
public final class ReadingTexts extends Reading {
    private static final String BILLION = "(999+1)*(999+1)*(999+1)";
    private static final float MOST = 1000000000f;

    public static void main(String[] args) {
        beginAt("A registry of water models");
        head();
        mostCalls();
        toldAndAsked();
        exceptions();
        ranges();
        floats();
        expressions();
        numbers();
        functions();
        namesOfTexts();
        namesOfRules();
        kept();
        faults();
        endAt("Versions are numbered from 0");
        end("the head and the texts hold, sentence by sentence");
    }

    private static void head() {
        says("A registry of water models: texts in a small language of floats, versions that pin those that they name, "
            + "and bind anew what rests on them; outputs hour by hour, kept, and found anew; runs ahead that are stamped, "
            + "and void when a model is mended or a rain was another one; dams that go by rules on runs; sirens that rest on runs, "
            + "hours of walking, and trust that falls with each siren that was wrong.");
        part("A registry of water models: texts in a small language of floats");
        FlumeRegistry x = write(new FlumeRegistry(), "p*0.5+g0");
        same("the fault", x.fault(false), NONE);
        same("the version", x.publish(0), 0);
        x.rain(0, 1, 10);
        bits("the output", x.out(0, 2), 5f);
        part("versions that pin those that they name, and bind anew what rests on them");
        same("the version", publish(x, 1, "m0*2"), 1);
        same("its pin", x.pin(1, 0), 0);
        same("the next one", publish(x, 0, "p*0.5+g0*2"), 2);
        same("the one that was bound anew", x.latest(1), 3);
        same("its pin", x.pin(3, 0), 2);
        part("outputs hour by hour, kept, and found anew");
        bits("the output", x.out(3, 1), 40f);
        bits("the output an hour later", x.out(3, 2), 20f);
        bits("the output found anew", x.outAnew(3, 2), 20f);
        part("runs ahead that are stamped, and void when a model is mended or a rain was another one");
        same("the run", x.run(1, 5), 0);
        same("why", x.why(0), STANDS);
        x.rain(0, 2, 8);
        same("why behind a rain", x.why(0), RAINED);
        bits("its peak", x.peak(0), 40f);
        x.run(1, 5);
        publish(x, 0, "p+g0");
        same("why behind a mended model", x.why(1), MENDED);
        part("dams that go by rules on runs");
        x.build(0, 1, 100);
        rule(x, 0, "r/4");
        x.goBy(0, x.run(1, 5));
        x.pass(2);
        bits("below the dam", x.below(0, 1), 36f / 4f);
        bits("the level", x.level(0), 20f - 36f / 4f);
        part("sirens that rest on runs, hours of walking, and trust that falls with each siren that was wrong");
        x.valley(0, 100, 30, 1);
        x.sound(0, 2);
        x.pass(4);
        same("the siren", x.siren(0), WRONG);
        bits("the trust", x.trust(0), 0.75f);
        x.run(1, 5);
        x.sound(0, 3);
        same("those who walk", x.walkers(1), 75);
        x.pass(1);
        same("the siren", x.siren(1), RIGHT);
        same("saved, an hour too late", x.saved(0), 0);
    }

    private static void mostCalls() {
        says("An object is used for at most 512 calls after it has been made; what later calls answer is free.");
        part("An object is used for at most 512 calls after it has been made");
        FlumeRegistry x = new FlumeRegistry();
        x.type('9');
        int calls = 1;
        for (int version = 0; version < 60; version++, calls++) {
            x.publish(version % 6);
        }
        x.build(0, 5, 1);
        x.valley(0, 10, 8, 0);
        calls += 2;
        for (int run = 0; run < 40; run++, calls++) {
            x.run(5, 48);
        }
        for (int siren = 0; siren < 60; siren++, calls += 2) {
            x.sound(0, 39);
            x.pass(1);
        }
        for (; calls < 506; calls++) {
            x.rain(calls % 3, calls % 201, calls % 501);
        }
        same("call 507", x.siren(59), RIGHT);
        same("call 508", x.saved(0), 600);
        same("call 509", x.why(39), STANDS);
        same("call 510", x.pass(24), 84);
        bits("call 511", x.out(59, 200), 9f);
        same("call 512", x.wipe(), 1);
        partAsksNothing("what later calls answer is free");
    }

    /** All that can be asked of a registry with some versions, and with a run and a siren if these have been made. */
    private static String asked(FlumeRegistry x, int versions, boolean hasRun, boolean hasSiren, boolean hasPassed) {
        StringBuilder text = new StringBuilder();
        text.append(x.fault(false)).append(' ').append(x.latest(0)).append(' ').append(x.alarm()).append(' ');
        for (int version = 0; version < versions; version++) {
            text.append(x.pin(version, 0)).append(' ').append(x.out(version, 3)).append(' ').append(x.outAnew(version, 3)).append(' ');
        }
        text.append(x.level(0)).append(' ').append(x.trust(0)).append(' ').append(x.saved(0)).append(' ');
        if (hasPassed) {
            text.append(x.below(0, 0)).append(' ');
        }
        if (hasRun) {
            text.append(x.why(0)).append(' ').append(x.peak(0)).append(' ').append(x.peakHour(0)).append(' ').append(x.peakAnew(0)).append(' ');
        }
        if (hasSiren) {
            text.append(x.siren(0)).append(' ').append(x.walkers(0)).append(' ');
        }
        return text.toString();
    }

    private static void toldAndAsked() {
        says("Texts, rains, runs, dams and sirens are told, hours pass; outputs, runs, levels, sirens and trust are asked.");
        part("Texts, rains, runs, dams and sirens are told, hours pass");
        FlumeRegistry x = new FlumeRegistry();
        FlumeRegistry y = new FlumeRegistry();
        for (int turn = 0; turn < 2; turn++) {
            // The second one is asked nothing until the end, and has to come to the same.
            boolean isAsked = turn == 0;
            FlumeRegistry z = isAsked ? x : y;
            publish(z, 0, "p+g0");
            askTwice(z, isAsked, 1, false, false, false);
            publish(z, 1, "m0*2");
            askTwice(z, isAsked, 2, false, false, false);
            z.rain(0, 2, 30);
            askTwice(z, isAsked, 2, false, false, false);
            z.build(0, 1, 50);
            rule(z, 0, "r-l");
            z.valley(0, 200, 60, 1);
            z.run(1, 4);
            z.goBy(0, 0);
            askTwice(z, isAsked, 2, true, false, false);
            z.sound(0, 0);
            askTwice(z, isAsked, 2, true, true, false);
            z.pass(3);
            askTwice(z, isAsked, 2, true, true, true);
            publish(z, 0, "g0*3");
            askTwice(z, isAsked, 4, true, true, true);
        }
        same("what was told, to one that was asked in between", asked(x, 4, true, true, true), asked(y, 4, true, true, true));
        part("outputs, runs, levels, sirens and trust are asked");
        bits("an output", x.out(1, 3), 60f);
        same("a run", x.why(0), MENDED);
        bits("a level", x.level(0), 0f);
        same("a siren", x.siren(0), RIGHT);
        bits("a trust", x.trust(0), 1f);
        same("the hour of now, which none of these moved", x.pass(1), 4);
    }

    private static void askTwice(FlumeRegistry x, boolean isAsked, int versions, boolean hasRun, boolean hasSiren, boolean hasPassed) {
        if (isAsked) {
            String before = asked(x, versions, hasRun, hasSiren, hasPassed);
            same("what is asked again", asked(x, versions, hasRun, hasSiren, hasPassed), before);
        }
    }

    private static void refuse(FlumeRegistry x) {
        fails("type of a wrong letter", ARGUMENT, () -> x.type('_'));
        fails("publish of a rule", ARGUMENT, () -> x.publish(1));
        fails("publish of no model", INDEX, () -> x.publish(6));
        fails("retire of a model that another one rests on", STATE, () -> x.retire(0));
        fails("rain of too many millimetres", ARGUMENT, () -> x.rain(0, 2, 501));
        fails("rain of no hour", ARGUMENT, () -> x.rain(0, 201, 5));
        fails("out of no hour", ARGUMENT, () -> x.out(0, 201));
        fails("run of too many hours", ARGUMENT, () -> x.run(1, 49));
        fails("run of no version", STATE, () -> x.run(2, 1));
        fails("build again", STATE, () -> x.build(0, 2, 7));
        fails("rule of no dam that is built", STATE, () -> x.rule(1));
        fails("goBy of another model's run", STATE, () -> x.goBy(0, 1));
        fails("valley of no danger", ARGUMENT, () -> x.valley(0, 1, 0, 1));
        fails("valley of no dam that is built", STATE, () -> x.valley(1, 1, 1, 1));
        fails("sound while one rings", STATE, () -> x.sound(0, 0));
        fails("pass of too many hours", ARGUMENT, () -> x.pass(25));
    }

    private static void exceptions() {
        says("A call that throws an exception changes nothing; if several exceptions apply, the one that its throws clause names first is thrown.");
        part("A call that throws an exception changes nothing");
        FlumeRegistry[] twins = {new FlumeRegistry(), new FlumeRegistry()};
        for (FlumeRegistry z : twins) {
            publish(z, 0, "p+g0");
            publish(z, 1, "m0*2");
            z.rain(0, 2, 30);
            z.build(0, 1, 50);
            rule(z, 0, "r-l");
            z.valley(0, 200, 60, 1);
            z.run(1, 4);
            z.run(0, 4);
            z.goBy(0, 0);
            z.sound(0, 0);
        }
        refuse(twins[0]);
        same("behind refused calls", asked(twins[0], 2, true, true, false), asked(twins[1], 2, true, true, false));
        for (FlumeRegistry z : twins) {
            z.pass(3);
        }
        same("three hours behind refused calls", asked(twins[0], 2, true, true, true), asked(twins[1], 2, true, true, true));
        same("the text", twins[0].wipe(), 3);
        same("the hour of now", twins[0].pass(1), 4);
        same("the number of the next run", twins[0].run(0, 1), 2);
        same("the number of the next version", publish(twins[0], 2, "1"), 2);
        part("if several exceptions apply, the one that its throws clause names first is thrown");
        String full = "((((((((((((((((((((((((((((((((((((((((";
        FlumeRegistry x = write(new FlumeRegistry(), full);
        fails("type of a wrong letter behind 40", ARGUMENT, () -> x.type('_'));
        fails("publish of no text for no model", INDEX, () -> x.publish(-1));
        write(x, "m0+");
        fails("publish of no text that names this model", ARGUMENT, () -> x.publish(0));
        fails("rain of no gauge in no hour", INDEX, () -> x.rain(3, 201, 501));
        fails("out of no version in no hour", INDEX, () -> x.out(0, -1));
        fails("outAnew of no version in no hour", INDEX, () -> x.outAnew(0, -1));
        fails("run of no model for no hours", INDEX, () -> x.run(6, 0));
        fails("run of no version for no hours", ARGUMENT, () -> x.run(5, 0));
        fails("build of no dam without a capacity", INDEX, () -> x.build(3, 0, 0));
        fails("build for no model without a capacity", INDEX, () -> x.build(0, 6, 0));
        x.build(0, 0, 1);
        fails("build again without a capacity", ARGUMENT, () -> x.build(0, 0, 0));
        fails("rule of no dam, and of no rule", INDEX, () -> x.rule(3));
        fails("rule of no dam that is built, and of no rule", ARGUMENT, () -> x.rule(1));
        fails("goBy of no dam that is built, and no run", INDEX, () -> x.goBy(1, 0));
        fails("below of no dam in no hour", INDEX, () -> x.below(3, 0));
        fails("valley of no dam without a danger", INDEX, () -> x.valley(-1, 0, 0, 0));
        fails("valley of no dam that is built, without a danger", ARGUMENT, () -> x.valley(1, 0, 0, 0));
        fails("sound of no valley, and no run", INDEX, () -> x.sound(0, 0));
        later(x, 200);
        fails("pass of no hours behind the last one", ARGUMENT, () -> x.pass(0));
    }

    private static void ranges() {
        says("Hours are 0 to 200; the hour of now is 0 at first.");
        part("Hours are 0 to 200");
        FlumeRegistry x = new FlumeRegistry();
        publish(x, 0, "h+1");
        bits("the hour 0", x.out(0, 0), 1f);
        bits("the hour 200", x.out(0, 200), 201f);
        fails("the hour -1", ARGUMENT, () -> x.out(0, -1));
        fails("the hour 201", ARGUMENT, () -> x.out(0, 201));
        FlumeRegistry last = later(new FlumeRegistry(), 200);
        fails("the hour of now 201", STATE, () -> last.pass(1));
        part("the hour of now is 0 at first");
        fails("an hour that has passed", ARGUMENT, () -> x.below(0, 0));
        publish(x, 0, "0-h");
        x.run(0, 3);
        same("the hour of the peak", x.peakHour(0), 0);
        same("the hour of now", x.pass(1), 1);
        says("Models are 0 to 5, gauges 0 to 2, dams 0 to 2.");
        part("Models are 0 to 5");
        FlumeRegistry y = write(new FlumeRegistry(), "1");
        for (int model = 0; model <= 5; model++) {
            same("the version of the model " + model, y.publish(model), model);
            same("its latest version", y.latest(model), model);
        }
        fails("the model 6", INDEX, () -> y.latest(6));
        fails("the model -1", INDEX, () -> y.latest(-1));
        part("gauges 0 to 2");
        for (int gauge = 0; gauge <= 2; gauge++) {
            y.rain(gauge, 0, gauge + 1);
            bits("the rain", y.out(publish(y, 0, "g" + gauge), 0), gauge + 1);
        }
        fails("the gauge 3", INDEX, () -> y.rain(3, 0, 1));
        fails("the gauge -1", INDEX, () -> y.rain(-1, 0, 1));
        part("dams 0 to 2");
        for (int dam = 0; dam <= 2; dam++) {
            y.build(dam, 1, 10);
        }
        y.pass(1);
        for (int dam = 0; dam <= 2; dam++) {
            bits("the level", y.level(dam), 1f);
        }
        fails("the dam 3", INDEX, () -> y.level(3));
        fails("the dam -1", INDEX, () -> y.level(-1));
    }

    private static void floats() {
        says("All that is told of floats is in float arithmetic: each single operation gives a float.");
        gives("0.1+0.7-0.8", 0.1f + 0.7f - 0.8f);
        gives("1/3*3-1", 1f / 3f * 3f - 1f);
        gives("1/49*49", 1f / 49f * 49f);
        gives("999.99*999.99+0.01-999.99*999.99", 999.99f * 999.99f + 0.01f - 999.99f * 999.99f);
        gives("999*999*17+1-999*999*17", 999f * 999f * 17f + 1f - 999f * 999f * 17f);
        FlumeRegistry x = dam("0.1+g0", 100);
        float level = 0f;
        for (int hour = 0; hour < 10; hour++) {
            level = level + 0.1f;
        }
        x.pass(10);
        bits("the level of ten tenths", x.level(0), level);
        says("Floats are told as their bits.");
        int version = publish(x, 0, "i(h-1,0-1.5,i(h,0.1,g1))");
        same("those of 0f", x.out(version, 0), 0);
        same("those of 0.1f", x.out(version, 1), 0x3dcccccd);
        same("those of -1.5f", x.out(version, 2), 0xbfc00000);
        same("those of -1.5f, found anew", x.outAnew(version, 2), 0xbfc00000);
        same("a trust of 1f", x.trust(0), 0x3f800000);
        x.run(0, 1);
        same("a peak of -1.5f", x.peak(0), 0xbfc00000);
        same("the same anew", x.peakAnew(0), 0xbfc00000);
        rule(x, 0, "0.5");
        x.pass(1);
        same("0.5f below", x.below(0, 10), 0x3f000000);
        same("the level", x.level(0), Float.floatToRawIntBits(level - 0.5f));
        FlumeRegistry y = new FlumeRegistry();
        publish(y, 0, "i(h,p/2,1)");
        same("the smallest one that has an exponent", y.out(0, 126), 0x00800000);
        same("one that has none", y.out(0, 127), 0x00400000);
        same("the smallest one of all", y.out(0, 149), 1);
        publish(y, 1, BILLION + "*-1");
        same("the least one", y.out(1, 0), 0xce6e6b28);
    }

    private static void expressions() {
        says("A text is typed letter by letter.");
        FlumeRegistry x = new FlumeRegistry();
        same("one letter", x.type('1'), 1);
        same("two", x.type('2'), 2);
        bits("of both", x.out(x.publish(0), 0), 12f);
        same("three", x.type('+'), 3);
        same("the fault", x.fault(false), 3);
        same("four", x.type('h'), 4);
        bits("of all four", x.out(x.publish(0), 5), 17f);
        says("It is an expression: one term or more, with + or - between them; a term is one factor or more, with * or / between them; "
            + "both are worked out from the left to the right.");
        part("It is an expression: one term or more, with + or - between them");
        gives("7", 7f);
        gives("7+1", 8f);
        gives("7-1", 6f);
        gives("7-1+2-3", 5f);
        same("a term behind a term", fault("7(1)", false), 1);
        same("nothing between two signs", fault("7++1", false), 2);
        same("no term in front", fault("+1", false), 0);
        part("a term is one factor or more, with * or / between them");
        gives("7*2", 14f);
        gives("7/2", 3.5f);
        gives("7*2/4*6", 21f);
        gives("20-2*3+8/4", 16f);
        gives("2*3-4*5", -14f);
        same("no factor in front", fault("*1", false), 0);
        same("nothing between two signs", fault("7*/1", false), 2);
        part("both are worked out from the left to the right");
        gives("1-2-3", -4f);
        gives("1-2+3", 2f);
        gives("8/4/2", 1f);
        gives("8/4*2", 4f);
        gives("0.1+0.2+0.3", 0.1f + 0.2f + 0.3f);
        says("A factor is a number; a name; a - and a factor; an expression in brackets ( and ); or a function.");
        part("A factor is a number");
        gives("2*3.5", 7f);
        part("a name");
        gives("2*h", 6f);
        part("a - and a factor");
        gives("-2", -2f);
        gives("--2", 2f);
        gives("-2*3+10", 4f);
        gives("-2-3", -5f);
        gives("2*-3", -6f);
        gives("2--3", 5f);
        gives("-(1-3)", 2f);
        gives("-n(1,2)", -1f);
        same("a - alone", fault("-", false), 1);
        same("a - and no factor", fault("-+1", false), 1);
        part("an expression in brackets ( and )");
        gives("(7)", 7f);
        gives("2*(3+4)", 14f);
        gives("8-(4-(2-1))", 5f);
        gives("(1-2)*(3-5)", 2f);
        same("nothing in brackets", fault("()", false), 1);
        same("no bracket that closes", fault("(1", false), 2);
        same("no bracket that opens", fault("1)", false), 1);
        part("a function");
        gives("2*x(3,4)+1", 9f);
        gives("t(2.5)*a(-2)", 4f);
    }

    private static void numbers() {
        says("A number has one to three figures, and perhaps a . and one or two figures behind it: "
            + "it is the number of hundredths that it has, as a float, divided by 100f.");
        part("A number has one to three figures");
        for (String text : new String[] {"0", "9", "12", "123", "000", "999"}) {
            same("the fault of " + text, fault(text, false), NONE);
        }
        same("the fault of four", fault("1234", false), 3);
        same("the fault of none", fault(".5", false), 0);
        part("perhaps a . and one or two figures behind it");
        for (String text : new String[] {"0.0", "0.00", "1.2", "12.34", "123.45"}) {
            same("the fault of " + text, fault(text, false), NONE);
        }
        same("the fault of none behind it", fault("1.", false), 2);
        same("the fault of none behind it, and more", fault("1.+2", false), 2);
        same("the fault of three behind it", fault("1.234", false), 4);
        same("the fault of two points", fault("1..2", false), 2);
        same("the fault of a second point", fault("1.2.3", false), 3);
        part("it is the number of hundredths that it has, as a float, divided by 100f");
        gives("7", 7f);
        gives("123", 123f);
        gives("0.1", 10f / 100f);
        gives("0.10", 10f / 100f);
        gives("0.01", 1f / 100f);
        gives("007.70", 770f / 100f);
        gives("999.9", 99990f / 100f);
        gives("999.99", 99999f / 100f);
        for (int number = 3; number < 100000; number += 2347) {
            int hundredths = number % 100;
            gives(number / 100 + "." + hundredths / 10 + hundredths % 10, (float) number / 100f);
        }
    }

    private static void functions() {
        says("A function is a letter and, in brackets, its expressions, with commas between them: x(a,b) the greater one of both; "
            + "n(a,b) the lesser one; i(a,b,c) is b if a is greater than 0, otherwise c; t(a) is a, cast to int and back; a(a) is a without its sign.");
        part("A function is a letter and, in brackets, its expressions, with commas between them");
        for (String text : new String[] {"x(1,2)", "n(1,2)", "i(1,2,3)", "t(1)", "a(1)", "x(1+2,3*4)", "i(n(1,2),(3),-4)"}) {
            same("the fault of " + text, fault(text, false), NONE);
        }
        same("no brackets", fault("x1,2", false), 1);
        same("no expression", fault("t()", false), 2);
        same("x with one", fault("x(1)", false), 3);
        same("x with three", fault("x(1,2,3)", false), 5);
        same("n with one", fault("n(1)", false), 3);
        same("n with three", fault("n(1,2,3)", false), 5);
        same("i with two", fault("i(1,2)", false), 5);
        same("i with four", fault("i(1,2,3,4)", false), 7);
        same("t with two", fault("t(1,2)", false), 3);
        same("a with two", fault("a(1,2)", false), 3);
        same("a comma in brackets of no function", fault("x((1,2),3)", false), 4);
        part("x(a,b) the greater one of both");
        gives("x(1,2)", 2f);
        gives("x(2,1)", 2f);
        gives("x(-1,-2)", -1f);
        gives("x(3,3)", 3f);
        part("n(a,b) the lesser one");
        gives("n(1,2)", 1f);
        gives("n(2,1)", 1f);
        gives("n(-1,-2)", -2f);
        gives("n(3,3)", 3f);
        part("i(a,b,c) is b if a is greater than 0, otherwise c");
        gives("i(0.01,2,3)", 2f);
        gives("i(0,2,3)", 3f);
        gives("i(-0.01,2,3)", 3f);
        part("t(a) is a, cast to int and back");
        gives("t(1.99)", 1f);
        gives("t(-1.99)", -1f);
        gives("t(0.99)", 0f);
        gives("t(999*999*999)", (float) (int) (999f * 999f * 999f));
        part("a(a) is a without its sign");
        gives("a(-1.5)", 1.5f);
        gives("a(1.5)", 1.5f);
        gives("a(0)", 0f);
    }

    private static void namesOfTexts() {
        says("Names of a model's text are: g and a figure 0 to 2, the rain of that gauge in the hour; m and a figure 0 to 5, the output of that model "
            + "in the hour; q and a figure 0 to 5, its output in the hour before; p, the own output in the hour before; h, the hour.");
        part("Names of a model's text are: g and a figure 0 to 2, the rain of that gauge in the hour");
        FlumeRegistry x = new FlumeRegistry();
        for (int gauge = 0; gauge < 3; gauge++) {
            x.rain(gauge, 4, 10 + gauge);
            x.rain(gauge, 5, 20 + gauge);
            int version = publish(x, 0, "g" + gauge);
            bits("the rain of the gauge " + gauge, x.out(version, 4), 10 + gauge);
            bits("that of the next hour", x.out(version, 5), 20 + gauge);
        }
        same("the fault of the gauge 3", fault("g3", false), 1);
        part("m and a figure 0 to 5, the output of that model in the hour");
        FlumeRegistry y = new FlumeRegistry();
        for (int model = 0; model < 6; model++) {
            publish(y, model, "h*10+" + model);
        }
        for (int model = 0; model < 6; model++) {
            int other = model < 5 ? 5 : 0;
            bits("the output of the model " + model, y.out(publish(y, other, "m" + model), 7), 70 + model);
            publish(y, other, "h*10+" + other);
        }
        same("the fault of the model 6", fault("m6", false), 1);
        part("q and a figure 0 to 5, its output in the hour before");
        for (int model = 0; model < 6; model++) {
            int other = model < 5 ? 5 : 0;
            bits("the output before, of the model " + model, y.out(publish(y, other, "q" + model), 7), 60 + model);
            publish(y, other, "h*10+" + other);
        }
        same("the fault of the model 6 before", fault("q6", false), 1);
        part("p, the own output in the hour before");
        bits("a sum of hours", y.out(publish(y, 3, "p+h"), 6), 1f + 2f + 3f + 4f + 5f + 6f);
        part("h, the hour");
        for (int hour : new int[] {0, 1, 77, 200}) {
            bits("the hour", y.out(publish(y, 3, "h"), hour), hour);
        }
    }

    private static void namesOfRules() {
        says("Names of a rule are: l, the level; f, the inflow; r, the peak of the run; h, the hour.");
        FlumeRegistry x = dam("i(h-2,8,10)", 1000);
        x.pass(3);
        x.run(0, 5);
        x.goBy(0, 0);
        float level = 30f;
        part("Names of a rule are: l, the level");
        rule(x, 0, "l/10");
        x.pass(1);
        bits("below", x.below(0, 3), level / 10f);
        level = level + 8f - level / 10f;
        part("f, the inflow");
        rule(x, 0, "f/16");
        x.pass(1);
        bits("below", x.below(0, 4), 8f / 16f);
        part("r, the peak of the run");
        rule(x, 0, "r/4");
        x.pass(1);
        bits("below", x.below(0, 5), 8f / 4f);
        part("h, the hour");
        rule(x, 0, "h/2");
        x.pass(1);
        bits("below", x.below(0, 6), 6f / 2f);
        for (char name = 'a'; name <= 'z'; name++) {
            String text = String.valueOf(name);
            same("the fault of the rule " + name, fault(text, true), "lfrh".indexOf(name) >= 0 ? NONE : "xnita".indexOf(name) >= 0 ? 1 : 0);
            same("the fault of the text " + name, fault(text, false), "ph".indexOf(name) >= 0 ? NONE : "gmqxnita".indexOf(name) >= 0 ? 1 : 0);
        }
        says("In the hour 0 the outputs in the hour before are 0.");
        FlumeRegistry y = new FlumeRegistry();
        publish(y, 0, "p+7");
        publish(y, 1, "q0");
        bits("p in the hour 0", y.out(0, 0), 7f);
        bits("p in the hour 1", y.out(0, 1), 14f);
        bits("q in the hour 0", y.out(1, 0), 0f);
        bits("q in the hour 1", y.out(1, 1), 7f);
        bits("p in the hour 0, found anew", y.outAnew(0, 0), 7f);
        bits("q in the hour 0, found anew", y.outAnew(1, 0), 0f);
    }

    private static void kept() {
        says("What comes of a number, a name, a -, an operation or a function is kept: if it is above 1000000000f it is that, "
            + "if it is below -1000000000f it is that, and if it is -0f it is 0f.");
        part("What comes of a number, a name, a -, an operation or a function is kept");
        gives("0", 0f);
        gives("g0", 0f);
        gives("-0", 0f);
        gives("0*-1", 0f);
        gives("t(-0.5)", 0f);
        gives(BILLION + "*2/2", MOST / 2f);
        gives("x(1," + BILLION + "*3)/4", MOST / 4f);
        part("if it is above 1000000000f it is that");
        gives(BILLION, MOST);
        gives(BILLION + "+64", MOST);
        gives(BILLION + "+64-64", 999999936f);
        gives(BILLION + "-64", 999999936f);
        gives(BILLION + "/0.01", MOST);
        part("if it is below -1000000000f it is that");
        gives("-" + BILLION, -MOST);
        gives("-" + BILLION + "-64", -MOST);
        gives("-" + BILLION + "-64+64", -999999936f);
        gives("-" + BILLION + "+64", -999999936f);
        gives("-" + BILLION + "/0.01", -MOST);
        part("if it is -0f it is 0f");
        for (String text : new String[] {"-0", "-(0)", "0*-1", "0/-1", "t(-0.99)", "-g0", "-h*0", "i(1,-0,1)", "x(-0,-1)", "n(-0,1)"}) {
            gives(text, 0f);
        }
        FlumeRegistry x = new FlumeRegistry();
        publish(x, 0, "i(h,p/999,0-1)");
        bits("one that is too small, and below 0", x.out(0, 20), 0f);
        says("Divided by 0, anything is 0.");
        for (String text : new String[] {"1/0", "0/0", "-1/0", "1/-0", "h/(h-h)", BILLION + "/0", "1/t(0.5)"}) {
            gives(text, 0f);
        }
        gives("5+1/0", 5f);
        gives("1/0.01", 1f / 0.01f);
        FlumeRegistry y = dam("5", 100);
        rule(y, 0, "2+f/l");
        y.pass(1);
        bits("in a rule", y.below(0, 0), 2f);
    }

    private static void faults() {
        says("The fault of a text, as a model's text or as a rule, is the place, from 0 on, of the first letter with which no such text, however long, "
            + "could go on there; its length, if it is only too short; NONE if it is such a text.");
        part("The fault of a text, as a model's text or as a rule, is the place, from 0 on, of the first letter with which no such text, however long, could go on there");
        same("the first letter", fault(")", false), 0);
        same("the first of two", fault("1+)b", false), 2);
        same("a name of rules, in a text", fault("1+l", false), 2);
        same("the same, as a rule", fault("1+l", true), NONE);
        same("a name of texts, in a rule", fault("1+p", true), 2);
        same("the same, as a text", fault("1+p", false), NONE);
        same("the last one of 40", fault("1+1+1+1+1+1+1+1+1+1+1+1+1+1+1+1+1+1+1+1)", false), 39);
        same("40 letters that could go on in a longer text", fault("((((((((((((((((((((((((((((((((((((((((", false), 40);
        same("a rule of 40 that could", fault("x(x(x(x(x(x(x(x(x(x(x(x(x(x(x(x(x(x(x(x(", true), 40);
        part("its length, if it is only too short");
        for (String text : new String[] {"", "-", "1+", "1.", "x", "x(", "x(1", "x(1,", "x(1,2", "(1", "(1)*", "i(1,2,3"}) {
            same("the fault of " + text, fault(text, false), text.length());
            same("the fault of the rule " + text, fault(text, true), text.length());
        }
        for (String text : new String[] {"g", "m", "q", "1+g"}) {
            same("the fault of " + text, fault(text, false), text.length());
        }
        part("NONE if it is such a text");
        for (String text : new String[] {"1", "-1", "h", "(1)", "1.25", "1+2*3", "x(1,2)", "t(h)", "----------------------------------------".substring(1) + "1"}) {
            same("the fault of " + text, fault(text, false), NONE);
            same("the fault of the rule " + text, fault(text, true), NONE);
        }
    }

    private static FlumeRegistry dam(String text, int capacity) {
        FlumeRegistry x = new FlumeRegistry();
        publish(x, 0, text);
        x.build(0, 0, capacity);
        return x;
    }
}
