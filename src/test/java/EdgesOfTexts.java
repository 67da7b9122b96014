import java.util.Locale;

/** The boundary cases of the texts: typing, faults, numbers, what is kept, the hour 0. */
public final class EdgesOfTexts extends Checks {
    private static final String FIGURES = "0123456789";
    private static final String BINARY = "+-*/";
    private static final String FACTOR = FIGURES + "-(xnitah";
    private static final String BILLION = "(999+1)*(999+1)*(999+1)";
    private static final float MOST = 1000000000f;

    public static void main(String[] args) {
        lettersOfTexts();
        fullText();
        wiping();
        nextLetters();
        nextLettersInModels();
        nextLettersInRules();
        tooShort();
        firstFaultOnly();
        faultsOfFullTexts();
        faultLeavesTheText();
        oneTermOrMore();
        fromLeftToRight();
        unarySigns();
        numbers();
        singleFloats();
        functions();
        names();
        namesOfRules();
        hourZero();
        hourBeforeInRuns();
        aboveTheLimit();
        belowTheLimit();
        limitInRules();
        negativeZero();
        dividedByZero();
        dividedInRules();
        smallest();
        end("the edges of the texts are as due");
    }

    private static void lettersOfTexts() {
        sentence("type: letter: a to z, 0 to 9, or one of + - * / ( ) , .");
        for (int code = 0; code <= Character.MAX_VALUE; code++) {
            char letter = (char) code;
            FlumeRegistry x = new FlumeRegistry();
            if (LETTERS.indexOf(letter) >= 0) {
                same("the answer to " + letter, x.type(letter), 1);
            } else if (code < 400 || code % 256 < 128 && code % 1024 < 256) {
                fails("the letter " + code, ARGUMENT, () -> x.type(letter));
                same("wipe behind the letter " + code, x.wipe(), 0);
            }
        }
        for (char letter : new char[] {'`', '{', '@', '[', 'A', 'Z', ':', '\'', ';', ' ', '_', '\0', '\uffff', '\u0161'}) {
            fails("the letter " + (int) letter, ARGUMENT, () -> new FlumeRegistry().type(letter));
        }
    }

    private static void fullText() {
        sentence("type: IllegalStateException if it has 40 letters");
        for (int which = 0; which < LETTERS.length(); which++) {
            char letter = LETTERS.charAt(which);
            FlumeRegistry x = new FlumeRegistry();
            for (int at = 1; at <= 40; at++) {
                same("the answer to " + letter, x.type(letter), at);
            }
            fails(letter + " as the 41st", STATE, () -> x.type(letter));
            same("wipe", x.wipe(), 40);
            same("the first one behind wipe", x.type(letter), 1);
        }
    }

    private static void wiping() {
        sentence("wipe: Returns how many letters it had");
        FlumeRegistry x = new FlumeRegistry();
        for (int letters = 0; letters <= 12; letters++) {
            for (int at = 0; at < letters; at++) {
                x.type('(');
            }
            same("wipe", x.wipe(), letters);
            same("wipe again", x.wipe(), 0);
        }
        same("nothing of it is left", write(x, "1").fault(false), NONE);
    }

    /** Behind a beginning just these letters can go on. */
    private static void goesOn(boolean isRule, String beginning, String letters) {
        for (int which = 0; which < LETTERS.length(); which++) {
            char letter = LETTERS.charAt(which);
            int fault = fault(beginning + letter, isRule);
            boolean is = fault != beginning.length();
            String what = (isRule ? "whether in the rule " : "whether in the text ") + beginning + " can go on " + letter;
            same(what, is ? 1 : 0, letters.indexOf(letter) >= 0 ? 1 : 0);
            same("the fault, if it can, is none or the length: " + beginning + letter, !is || fault == NONE || fault == beginning.length() + 1 ? 1 : 0, 1);
        }
    }

    private static void goesOnInBoth(String beginning, String letters) {
        goesOn(false, beginning, letters + (letters.startsWith(FACTOR) ? "pgmq" : ""));
        goesOn(true, beginning, letters + (letters.startsWith(FACTOR) ? "lfr" : ""));
    }

    private static void nextLetters() {
        sentence("the first letter with which no such text, however long, could go on there");
        for (String beginning : new String[] {"", "-", "--", "(", "((", "(-", "-(", "1+", "1-", "1*", "1/", "1--", "h+", "(1)*", "1+2*"}) {
            goesOnInBoth(beginning, FACTOR);
        }
        for (String beginning : new String[] {"x(", "n(", "i(", "t(", "a(", "x(1,", "n(1,", "i(1,", "i(1,2,", "x(t(1),", "i(x(1,2),", "x((1)+"}) {
            goesOnInBoth(beginning, FACTOR);
        }
        for (String beginning : new String[] {"", "-", "1+", "h*", "x(1,2)/"}) {
            goesOnInBoth(beginning + "1", FIGURES + "." + BINARY);
            goesOnInBoth(beginning + "00", FIGURES + "." + BINARY);
            goesOnInBoth(beginning + "123", "." + BINARY);
            goesOnInBoth(beginning + "1.", FIGURES);
            goesOnInBoth(beginning + "123.", FIGURES);
            goesOnInBoth(beginning + "1.2", FIGURES + BINARY);
            goesOnInBoth(beginning + "123.4", FIGURES + BINARY);
            goesOnInBoth(beginning + "1.23", BINARY);
            goesOnInBoth(beginning + "123.45", BINARY);
            goesOnInBoth(beginning + "h", BINARY);
            goesOnInBoth(beginning + "(1)", BINARY);
            goesOnInBoth(beginning + "t(1)", BINARY);
            goesOnInBoth(beginning + "i(1,2,3)", BINARY);
        }
        for (String function : new String[] {"x", "n", "i", "t", "a"}) {
            goesOnInBoth(function, "(");
            goesOnInBoth("1-" + function, "(");
            goesOnInBoth("i(1," + function, "(");
        }
        for (String closed : new String[] {"(h", "((h)", "t(h", "a(h", "x(h,h", "n(h,h", "i(h,h,h", "x(h,(h)", "i(x(h,h),h,t(h)", "(x(h,h)", "x(h,t(h)"}) {
            goesOnInBoth(closed, BINARY + ")");
        }
        for (String parted : new String[] {"x(h", "n(h", "i(h", "i(h,h", "x((h)", "x(n(h,h)", "i(h,x(h,h)", "t(x(h", "i(t(h),h", "x(h,x(h"}) {
            goesOnInBoth(parted, BINARY + ",");
        }
        goesOnInBoth("x(1", FIGURES + "." + BINARY + ",");
        goesOnInBoth("x(1.5", FIGURES + BINARY + ",");
        goesOnInBoth("(1", FIGURES + "." + BINARY + ")");
        goesOnInBoth("(123", "." + BINARY + ")");
        goesOnInBoth("(1.", FIGURES);
        goesOnInBoth("(1.25", BINARY + ")");
    }

    private static void nextLettersInModels() {
        sentence("Names of a model's text are g and a figure 0 to 2, m and q and a figure 0 to 5, p, h");
        for (String beginning : new String[] {"", "-", "1+", "(", "x("}) {
            String behind = BINARY + (beginning.equals("(") ? ")" : beginning.equals("x(") ? "," : "");
            goesOn(false, beginning + "g", "012");
            goesOn(false, beginning + "m", "012345");
            goesOn(false, beginning + "q", "012345");
            goesOn(false, beginning + "p", behind);
            goesOn(false, beginning + "h", behind);
            goesOn(false, beginning + "g2", behind);
            goesOn(false, beginning + "m5", behind);
            goesOn(false, beginning + "q0", behind);
        }
        for (String name : new String[] {"l", "f", "r", "l+1", "f*2", "r"}) {
            same("the fault of " + name, fault(name, false), 0);
            same("the fault of 1+" + name, fault("1+" + name, false), 2);
        }
    }

    private static void nextLettersInRules() {
        sentence("Names of a rule are l, f, r, h");
        for (String name : new String[] {"l", "f", "r", "h"}) {
            goesOn(true, name, BINARY);
            goesOn(true, "(" + name, BINARY + ")");
            goesOn(true, "i(1," + name, BINARY + ",");
            same("the fault of " + name, fault(name, true), NONE);
        }
        for (String name : new String[] {"g0", "g", "m0", "m5", "q0", "q", "p"}) {
            same("the fault of " + name, fault(name, true), 0);
            same("the fault of l-" + name, fault("l-" + name, true), 2);
        }
    }

    private static void tooShort() {
        sentence("its length, if it is only too short; NONE if it is such a text");
        String[] shorter = {"", "-", "(", "1+", "1.", "12.", "h*", "x", "x(", "x(1", "x(1,", "x(1,2", "i(1,2", "i(1,2,", "i(1,2,3", "t(", "t(1",
            "a", "(1", "((1)", "(1)+", "1-(h", "-(-(", "n(h,(1)", "1+2-3*4/", "n(n(1,2)", "n(n(1,2),3"};
        for (String text : shorter) {
            same("the fault of " + text, fault(text, false), text.length());
            same("the fault of the rule " + text, fault(text, true), text.length());
        }
        for (String text : new String[] {"g", "m", "q", "1+g", "x(q", "(p", "-m"}) {
            same("the fault of " + text, fault(text, false), text.length());
        }
        String[] whole = {"0", "00", "000", "0.0", "1", "12", "123", "1.2", "1.23", "-1", "--1", "h", "(1)", "((h))", "1+2", "1-2", "1*2", "1/2",
            "x(1,2)", "n(1,2)", "i(1,2,3)", "t(1)", "a(1)", "1--2", "1*-2", "-(1)", "-x(1,2)", "x(-1,(2))", "1/0"};
        for (String text : whole) {
            same("the fault of " + text, fault(text, false), NONE);
            same("the fault of the rule " + text, fault(text, true), NONE);
        }
    }

    private static void firstFaultOnly() {
        sentence("The fault of a text is the place of the first letter");
        String[] texts = {"1)", "1,", "()", "x1", "x(1)", "t(1,", "1234", "1.234", "h1", ".", "x(1,2,", "i(1,2)", "1..", "b"};
        for (String text : texts) {
            for (String more : new String[] {"", "1", ")", "(", "+1", ",2)", "g9"}) {
                same("the fault of " + text + more, fault(text + more, false), text.length() - 1);
                same("the fault of the rule " + text + more, fault(text + more, true), text.length() - 1);
            }
        }
        same("the fault of g3", fault("g3+", false), 1);
        same("the fault of m6", fault("m6)", false), 1);
        same("the fault of q6", fault("q6", false), 1);
        same("the fault of two wrong names", fault("1+l+f", false), 2);
    }

    private static String times(String part, int count) {
        StringBuilder text = new StringBuilder();
        for (int at = 0; at < count; at++) {
            text.append(part);
        }
        return text.toString();
    }

    private static void faultsOfFullTexts() {
        sentence("however long: a text of 40 letters may still be only too short");
        String[] shorter = {times("(", 40), times("-", 40), times("x(", 20), times("i(", 20), times("1+", 20), times("(", 39) + "1",
            times("(", 20) + "1" + times(")", 19), times("x(1,", 10), times("t(", 19) + "12", "(" + times("1+", 19) + "1"};
        for (String text : shorter) {
            same("the letters of " + text, text.length(), 40);
            same("the fault of " + text, fault(text, false), 40);
            same("the fault of the rule " + text, fault(text, true), 40);
        }
        String[] whole = {times("-", 39) + "1", times("1+", 18) + "1.25", times("t(", 12) + "h+12" + times(")", 12), times("(", 19) + "12" + times(")", 19)};
        for (String text : whole) {
            same("the letters of " + text, text.length(), 40);
            same("the fault of " + text, fault(text, false), NONE);
            same("the fault of the rule " + text, fault(text, true), NONE);
        }
        same("the fault of one that is wrong at last", fault(times("1+", 19) + "1)", false), 39);
        same("the fault of one that is wrong at first", fault(times(")", 40), false), 0);
        FlumeRegistry x = new FlumeRegistry();
        bits(times("-", 39) + "1", x.out(publish(x, 0, times("-", 39) + "1"), 0), -1f);
        String deep = times("(", 19) + "12" + times(")", 19);
        bits(deep, x.out(publish(x, 0, deep), 0), 12f);
        String sum = times("1+", 19) + "10";
        bits(sum, x.out(publish(x, 0, sum), 0), 29f);
        String right = times("1-(", 9) + "1" + times(")", 9) + "*12";
        bits(right, x.out(publish(x, 0, right), 0), -11f);
        String nested = times("x(1,", 7) + "2" + times(")", 7);
        bits(nested, x.out(publish(x, 0, nested), 0), 2f);
    }

    private static void faultLeavesTheText() {
        sentence("fault: Returns the fault of the text, as a model's text or as a rule");
        FlumeRegistry x = write(new FlumeRegistry(), "p+");
        same("as a model's text", x.fault(false), 2);
        same("as a rule", x.fault(true), 0);
        same("as a model's text again", x.fault(false), 2);
        x.type('l');
        same("as a model's text", x.fault(false), 2);
        same("as a rule", x.fault(true), 0);
        same("wipe", x.wipe(), 3);
        same("of nothing, as a model's text", x.fault(false), 0);
        same("of nothing, as a rule", x.fault(true), 0);
    }

    private static void oneTermOrMore() {
        sentence("one term or more, with + or - between them; one factor or more, with * or / between them");
        gives("7", 7f);
        gives("7+1", 8f);
        gives("7-1", 6f);
        gives("7*2", 14f);
        gives("7/2", 3.5f);
        gives("1+2+3-4+5", 7f);
        gives("2*3/4*5", 7.5f);
        gives("2*3+4*5-6/3", 24f);
        gives("1-2*3-4", -9f);
        gives("(1-2)*(3-4)", 1f);
    }

    private static void fromLeftToRight() {
        sentence("both are worked out from the left to the right");
        gives("1-2-3", -4f);
        gives("1-2+3", 2f);
        gives("1-(2+3)", -4f);
        gives("8/4/2", 1f);
        gives("8/4*2", 4f);
        gives("8/(4*2)", 1f);
        gives("8*4/2", 16f);
        gives("1/3*3-1", 1f / 3f * 3f - 1f);
        gives("0.1+0.7-0.8", 0.1f + 0.7f - 0.8f);
        gives("0.1+(0.7-0.8)", 0.1f + (0.7f - 0.8f));
        gives(BILLION + "+64-64", 999999936f);
        gives(BILLION + "+(64-64)", MOST);
    }

    private static void unarySigns() {
        sentence("a - and a factor");
        gives("-2", -2f);
        gives("--2", 2f);
        gives("----2", 2f);
        gives("-----2", -2f);
        gives("-2+3", 1f);
        gives("-2-3", -5f);
        gives("2--3", 5f);
        gives("2---3", -1f);
        gives("-2*-3", 6f);
        gives("6/-3", -2f);
        gives("-6/3-1", -3f);
        gives("-(2-5)", 3f);
        gives("-x(2,5)*2", -10f);
        gives("-h", -3f);
    }

    private static String hundredths(int number, int figuresBehind) {
        String text = String.format(Locale.ROOT, "%d.%02d", number / 100, number % 100);
        return figuresBehind == 2 ? text : text.substring(0, text.length() - (figuresBehind == 1 ? 1 : 3));
    }

    private static void numbers() {
        sentence("the number of hundredths that it has, as a float, divided by 100f");
        for (int behind = 0; behind <= 2; behind++) {
            // A step of 7 comes by all figures at each place.
            int step = behind == 2 ? 7 : behind == 1 ? 70 : 100;
            FlumeRegistry x = new FlumeRegistry();
            for (int number = 0; number < 100000; number += step) {
                x = number / step % 50 == 0 ? new FlumeRegistry() : x;
                String text = hundredths(number, behind);
                bits(text, x.out(publish(x, 0, text), 0), (float) number / 100f);
            }
        }
        gives("0", 0f);
        gives("00", 0f);
        gives("000.00", 0f);
        gives("007", 7f);
        gives("010", 10f);
        gives("001.10", 1.1f);
        gives("0.01", 0.01f);
        gives("0.1", 0.1f);
        gives("999", 999f);
        gives("999.9", 999.9f);
        gives("999.99", 999.99f);
    }

    private static void singleFloats() {
        sentence("all that is told of floats is in float arithmetic: each single operation gives a float");
        gives("0.1+0.2-0.3", 0.1f + 0.2f - 0.3f);
        gives("0.7*0.7-0.49", 0.7f * 0.7f - 0.49f);
        gives("1/3*3", 1f / 3f * 3f);
        gives("999*999*17+1", 999f * 999f * 17f + 1f);
        float square = 999.99f * 999.99f;
        gives("999.99*999.99*16-999.99*999.99*16", 0f);
        gives("999.99*999.99+0.01", square + 0.01f);
        gives("(999.99*999.99+0.01)-999.99*999.99", square + 0.01f - square);
        gives("1/7*0.3+2/9", 1f / 7f * 0.3f + 2f / 9f);
        gives("1/49*49-1", 1f / 49f * 49f - 1f);
        float sum = 0f;
        for (int at = 0; at < 10; at++) {
            sum += 0.1f;
        }
        gives("0.1+0.1+0.1+0.1+0.1+0.1+0.1+0.1+0.1+0.1", sum);
    }

    private static void functions() {
        sentence("x(a,b) is the greater one of both; n(a,b) the lesser one");
        gives("x(1,2)", 2f);
        gives("x(2,1)", 2f);
        gives("x(2,2)", 2f);
        gives("x(-1,-2)", -1f);
        gives("x(0,-1)", 0f);
        gives("n(1,2)", 1f);
        gives("n(2,1)", 1f);
        gives("n(2,2)", 2f);
        gives("n(-1,-2)", -2f);
        gives("n(0,-1)", -1f);
        sentence("i(a,b,c) is b if a is greater than 0, otherwise c");
        gives("i(1,2,3)", 2f);
        gives("i(0.01,2,3)", 2f);
        gives("i(0,2,3)", 3f);
        gives("i(-0,2,3)", 3f);
        gives("i(-0.01,2,3)", 3f);
        gives("i(1,2,1/0)", 2f);
        gives("i(1-1,2,i(1,4,5))", 4f);
        sentence("t(a) is a, cast to int and back");
        gives("t(0.99)", 0f);
        gives("t(1)", 1f);
        gives("t(1.99)", 1f);
        gives("t(-0.99)", 0f);
        gives("t(-1)", -1f);
        gives("t(-1.99)", -1f);
        gives("t(999.99*999.99)", (float) (int) (999.99f * 999.99f));
        gives("t(" + BILLION + ")", MOST);
        gives("t(-" + BILLION + ")", -MOST);
        sentence("a(a) is a without its sign");
        gives("a(-1.5)", 1.5f);
        gives("a(1.5)", 1.5f);
        gives("a(0)", 0f);
        gives("a(0.5)", 0.5f);
        gives("a(-0.01)", 0.01f);
        gives("a(0.01/9)", 0.01f / 9f);
        gives("a(-" + BILLION + ")", MOST);
    }

    private static void names() {
        sentence("g and a figure 0 to 2; m and a figure 0 to 5; q and a figure 0 to 5; p; h");
        FlumeRegistry x = new FlumeRegistry();
        for (int gauge = 0; gauge < 3; gauge++) {
            for (int hour = 0; hour < 4; hour++) {
                x.rain(gauge, hour, 100 * gauge + hour + 1);
            }
            bits("g" + gauge, x.out(publish(x, 0, "g" + gauge), 2), 100 * gauge + 3);
        }
        FlumeRegistry y = new FlumeRegistry();
        for (int model = 0; model < 6; model++) {
            publish(y, model, "h+" + (model + 1) * 10);
        }
        for (int model = 0; model < 6; model++) {
            int other = model == 0 ? 5 : 0;
            int version = publish(y, other, "m" + model);
            bits("m" + model, y.out(version, 200), 200 + (model + 1) * 10);
            version = publish(y, other, "q" + model);
            bits("q" + model, y.out(version, 200), 199 + (model + 1) * 10);
            publish(y, other, "h+" + (other + 1) * 10);
        }
        int sum = publish(y, 3, "p+h");
        bits("p", y.out(sum, 200), 200 * 201 / 2);
        int hour = publish(y, 3, "h");
        for (int at : new int[] {0, 1, 199, 200}) {
            bits("h", y.out(hour, at), at);
        }
        y.pass(5);
        bits("h is the hour that is asked for, not that of now", y.out(hour, 2), 2f);
    }

    private static void namesOfRules() {
        sentence("l, the level; f, the inflow; r, the peak of the run; h, the hour");
        FlumeRegistry x = new FlumeRegistry();
        publish(x, 0, "10-h");
        x.build(0, 0, 100);
        x.pass(2);
        x.run(0, 2);
        x.goBy(0, 0);
        rule(x, 0, "l/10");
        x.pass(1);
        bits("l, before the inflow", x.below(0, 2), 19f / 10f);
        float level = 19f + 8f - 19f / 10f;
        bits("level", x.level(0), level);
        rule(x, 0, "f/10");
        x.pass(1);
        bits("f", x.below(0, 3), 7f / 10f);
        rule(x, 0, "r/10");
        x.pass(1);
        bits("r", x.below(0, 4), 8f / 10f);
        rule(x, 0, "h/10");
        x.pass(1);
        bits("h", x.below(0, 5), 5f / 10f);
    }

    private static void hourZero() {
        sentence("In the hour 0 the outputs in the hour before are 0");
        FlumeRegistry x = new FlumeRegistry();
        publish(x, 0, "7");
        publish(x, 1, "q0");
        publish(x, 2, "p+1");
        publish(x, 3, "m0");
        publish(x, 4, "q2+q1+p*2+h");
        bits("q in the hour 0", x.out(1, 0), 0f);
        bits("q in the hour 1", x.out(1, 1), 7f);
        bits("p in the hour 0", x.out(2, 0), 1f);
        bits("p in the hour 1", x.out(2, 1), 2f);
        bits("m in the hour 0", x.out(3, 0), 7f);
        bits("all in the hour 0", x.out(4, 0), 0f);
        bits("all in the hour 1", x.out(4, 1), 1f + 0f + 0f + 1f);
        bits("all in the hour 2", x.out(4, 2), 2f + 7f + 4f + 2f);
        for (int version = 0; version < 5; version++) {
            same("found anew in the hour 200", x.outAnew(version, 200), x.out(version, 200));
            same("found anew in the hour 0", x.outAnew(version, 0), x.out(version, 0));
        }
        bits("q in the hour 0, behind the hour 200", x.out(1, 0), 0f);
        bits("p in the hour 0, behind the hour 200", x.out(2, 0), 1f);
        x.pass(3);
        publish(x, 2, "p+1");
        bits("p in the hour 0, told in the hour 3", x.out(x.latest(2), 0), 1f);
        bits("p in the hour 3, told in the hour 3", x.out(x.latest(2), 3), 4f);
    }

    private static void hourBeforeInRuns() {
        sentence("a run begins with the outputs of the hour before, but for the hour 0");
        FlumeRegistry x = new FlumeRegistry();
        publish(x, 0, "i(h-4,0,9)");
        publish(x, 1, "q0");
        publish(x, 2, "p*0+i(h-5,0,q0)");
        x.run(1, 1);
        bits("the peak from the hour 0 on", x.peak(0), 9f);
        same("its hour", x.peakHour(0), 1);
        x.pass(5);
        x.run(1, 3);
        bits("the peak from the hour 5 on", x.peak(1), 9f);
        same("its hour", x.peakHour(1), 5);
        bits("the same anew", x.peakAnew(1), 9f);
        publish(x, 3, "p+1");
        x.run(3, 2);
        bits("a sum from the hour 0 on", x.peak(2), 8f);
    }

    private static void aboveTheLimit() {
        sentence("if it is above 1000000000f it is that");
        gives(BILLION, MOST);
        gives(BILLION + "-64", 999999936f);
        gives(BILLION + "-64+64", MOST);
        gives(BILLION + "+33-64", 999999936f);
        gives(BILLION + "+64-128", 999999872f);
        gives(BILLION + "--64-64", 999999936f);
        gives(BILLION + "*1.01/1.01", MOST / 1.01f);
        gives(BILLION + "/0.99*0.99", MOST * 0.99f);
        gives(BILLION + "*999/999", MOST / 999f);
        gives(BILLION + "/0.01*0.01", MOST * 0.01f);
        FlumeRegistry x = new FlumeRegistry();
        publish(x, 0, BILLION);
        publish(x, 1, "m0+m0-m0");
        bits("of names", x.out(1, 0), 0f);
        publish(x, 2, "m0*m0/m0");
        bits("of names", x.out(2, 0), 1f);
        publish(x, 3, "p+" + BILLION);
        bits("hour by hour", x.out(3, 200), MOST);
        publish(x, 4, "x(m0,m0*2)+n(m0*2,m0*3)");
        bits("of functions", x.out(4, 0), MOST);
        publish(x, 5, "i(m0*m0,m0*m0,0)-1");
        bits("of functions", x.out(5, 0), MOST - 1f);
    }

    private static void belowTheLimit() {
        sentence("if it is below -1000000000f it is that");
        gives("-" + BILLION, -MOST);
        gives("-" + BILLION + "+64", -999999936f);
        gives("-" + BILLION + "+64-64", -MOST);
        gives("-" + BILLION + "-33+64", -999999936f);
        gives("-" + BILLION + "-64+128", -999999872f);
        gives("-" + BILLION + "*1.01/1.01", -MOST / 1.01f);
        gives("-" + BILLION + "/0.99*0.99", -MOST * 0.99f);
        gives(BILLION + "*-999/999", -MOST / 999f);
        gives(BILLION + "/-0.01*0.01", -MOST * 0.01f);
        FlumeRegistry x = new FlumeRegistry();
        publish(x, 0, "-" + BILLION);
        publish(x, 1, "m0+m0-m0");
        bits("of names", x.out(1, 0), 0f);
        publish(x, 2, "m0*m0/m0");
        bits("of names", x.out(2, 0), -1f);
        publish(x, 3, "p-" + BILLION);
        bits("hour by hour", x.out(3, 200), -MOST);
        publish(x, 4, "a(m0*2)");
        bits("of functions", x.out(4, 0), MOST);
    }

    private static void limitInRules() {
        sentence("what comes of a rule's parts is kept likewise");
        FlumeRegistry x = new FlumeRegistry();
        publish(x, 0, "50");
        x.build(0, 0, 100);
        rule(x, 0, BILLION + "*3/999/999/999");
        x.pass(1);
        bits("above", x.below(0, 0), MOST / 999f / 999f / 999f);
        rule(x, 0, "-" + BILLION + "*3/-999/999/999");
        x.pass(1);
        bits("below", x.below(0, 1), MOST / 999f / 999f / 999f);
    }

    private static void negativeZero() {
        sentence("if it is -0f it is 0f");
        String[] texts = {"-0", "-(0)", "---0", "0*-1", "-1*0", "0/-1", "-0/1", "t(-0.99)", "t(-0.01)", "a(-0)", "x(-0,-0)", "x(-0,0)", "n(0,-0)",
            "i(1,-0,1)", "i(-0,1,-0)", "-0-0", "-0+-0", "0-0", "-(1-1)", "-h*0", "-p*0", "-g0", "-t(0.5)"};
        for (String text : texts) {
            gives(text, 0f);
        }
        FlumeRegistry x = new FlumeRegistry();
        publish(x, 0, "i(h,p/999,1)");
        publish(x, 1, "-m0/999");
        publish(x, 2, "m0*-m0");
        publish(x, 3, "1/(m0*-m0)");
        bits("too small, and below 0", x.out(1, 200), 0f);
        bits("a product too small, and below 0", x.out(2, 10), 0f);
        bits("1 divided by this", x.out(3, 10), 0f);
    }

    private static void dividedByZero() {
        sentence("Divided by 0, anything is 0");
        String[] texts = {"1/0", "0/0", "-1/0", "1/-0", "-1/-0", "1/(1-1)", "1/t(0.99)", "1/t(-0.99)", "1/g0", "1/0.00", "999*999*999*999/0",
            "1/0*5", "1/(1/0)", "h/(h-h)", "1/0/0", "p/0"};
        for (String text : texts) {
            gives(text, 0f);
        }
        gives("5-1/0", 5f);
        gives("1/0+2", 2f);
        gives("x(1/0,-1)", 0f);
        gives("n(1/0,1)", 0f);
        gives("i(1/0,1,2)", 2f);
        gives("1/0.01", 1f / 0.01f);
        FlumeRegistry x = new FlumeRegistry();
        publish(x, 0, "6/h");
        publish(x, 1, "6/q0");
        bits("in the hour 0", x.out(0, 0), 0f);
        bits("in the hour 1", x.out(0, 1), 6f);
        bits("by the hour before of the hour 0", x.out(1, 0), 0f);
        bits("by the hour before of the hour 1", x.out(1, 1), 0f);
        bits("by the hour before of the hour 2", x.out(1, 2), 1f);
    }

    private static void dividedInRules() {
        sentence("Divided by 0, anything is 0, in a rule too");
        FlumeRegistry x = new FlumeRegistry();
        publish(x, 0, "50");
        x.build(0, 0, 100);
        rule(x, 0, "5/l");
        x.pass(1);
        bits("by a level of 0", x.below(0, 0), 0f);
        rule(x, 0, "3+5/r");
        x.pass(1);
        bits("by the peak of no run", x.below(0, 1), 3f);
    }

    private static void smallest() {
        sentence("Floats are told as their bits: the smallest ones too");
        FlumeRegistry x = new FlumeRegistry();
        publish(x, 0, "i(h,p/2,1)");
        publish(x, 1, "-i(h,-p/2,1)");
        float half = 1f;
        for (int hour = 0; hour <= 200; hour++) {
            bits("a half", x.out(0, hour), half);
            bits("a half of one below 0", x.out(1, hour), half == 0f ? 0f : -half);
            half = half / 2f;
        }
        FlumeRegistry y = new FlumeRegistry();
        publish(y, 0, "i(h,p/2,1.99)");
        publish(y, 1, "i(h,p/3,0-999.99)");
        float odd = 1.99f;
        float third = -999.99f;
        for (int hour = 0; hour <= 160; hour++) {
            bits("a half of an odd one", y.out(0, hour), odd);
            bits("a third", y.out(1, hour), third == 0f ? 0f : third);
            odd = odd / 2f;
            third = third / 3f;
        }
        FlumeRegistry z = new FlumeRegistry();
        publish(z, 0, "i(h,p*2,0.01)");
        publish(z, 1, "i(h,p*3,0-0.07)");
        float twice = 0.01f;
        float thrice = -0.07f;
        for (int hour = 0; hour <= 60; hour++) {
            bits("twice", z.out(0, hour), twice);
            bits("thrice", z.out(1, hour), thrice);
            twice = Math.min(twice * 2f, MOST);
            thrice = Math.max(thrice * 3f, -MOST);
        }
    }
}
