/** For each promise of the document: ordinary inputs, the edges that it names, and wrong inputs. */
public final class FlumeRegistryPromises extends Checks {
    public static void main(String[] args) {
        newObject();
        types();
        wipes();
        faults();
        faultsOfNumbers();
        faultsOfNames();
        faultsOfFunctions();
        publishes();
        bindsAnew();
        refusesToPublish();
        mostVersions();
        retires();
        latests();
        pins();
        rains();
        outs();
        workings();
        limits();
        outsAnew();
        runs();
        mostRuns();
        whys();
        whysOfRain();
        peaks();
        peaksAnew();
        builds();
        rules();
        goesBy();
        levels();
        belows();
        valleys();
        sounds();
        mostSirens();
        sirens();
        walkersOfSirens();
        trusts();
        saves();
        alarms();
        passes();
        end("all promises are kept");
    }

    private static void newObject() {
        sentence("1 new");
        FlumeRegistry x = new FlumeRegistry();
        for (int model = 0; model < 6; model++) {
            same("latest", x.latest(model), NONE);
        }
        fails("pin", INDEX, () -> x.pin(0, 0));
        fails("why", INDEX, () -> x.why(0));
        fails("siren", INDEX, () -> x.siren(0));
        for (int dam = 0; dam < 3; dam++) {
            bits("level", x.level(dam), 0f);
            bits("trust", x.trust(dam), 1f);
            same("saved", x.saved(dam), 0);
        }
        same("alarm", x.alarm(), 0);
        same("rain", x.rain(0, 0, 1), 0);
        same("rain", x.rain(2, 200, 1), 0);
        same("fault", x.fault(false), 0);
        same("wipe", x.wipe(), 0);
        same("pass", x.pass(1), 1);
        FlumeRegistry other = new FlumeRegistry();
        same("rain of another object", other.rain(0, 0, 1), 0);
        same("NONE", FlumeRegistry.NONE, -1);
        same("STANDS", FlumeRegistry.STANDS, 0);
        same("MENDED", FlumeRegistry.MENDED, 1);
        same("RAINED", FlumeRegistry.RAINED, 2);
        same("RINGS", FlumeRegistry.RINGS, 0);
        same("RIGHT", FlumeRegistry.RIGHT, 1);
        same("WRONG", FlumeRegistry.WRONG, 2);
        same("WITHDRAWN", FlumeRegistry.WITHDRAWN, 3);
    }

    private static void types() {
        sentence("2 type");
        String letters = "abcdefghijklmnopqrstuvwxyz0123456789+-*/(),.";
        for (int letter = 0; letter < 65536; letter++) {
            char typed = (char) letter;
            FlumeRegistry x = new FlumeRegistry();
            if (letters.indexOf(typed) >= 0) {
                same("type " + typed, x.type(typed), 1);
            } else if (letter < 300 || letter % 1000 == 535) {
                fails("type " + letter, ARGUMENT, () -> x.type(typed));
                same("wipe", x.wipe(), 0);
            }
        }
        FlumeRegistry x = new FlumeRegistry();
        for (int at = 1; at <= 40; at++) {
            same("type", x.type('-'), at);
        }
        fails("type the 41st", STATE, () -> x.type('-'));
        fails("type the 41st, a wrong one", ARGUMENT, () -> x.type('A'));
        same("wipe", x.wipe(), 40);
        same("type", x.type('1'), 1);
    }

    private static void wipes() {
        sentence("3 wipe");
        FlumeRegistry x = new FlumeRegistry();
        same("wipe", x.wipe(), 0);
        write(x, "1+");
        same("wipe", x.wipe(), 2);
        same("wipe", x.wipe(), 0);
        same("fault", x.fault(false), 0);
        x.type('2');
        bits("out", x.out(x.publish(0), 0), 2f);
        same("wipe behind publish", x.wipe(), 1);
    }

    private static void sameFault(String text, int want) {
        same("fault of " + text, fault(text, false), want);
        same("fault of the rule " + text, fault(text, true), want);
    }

    private static void faults() {
        sentence("4 fault");
        sameFault("", 0);
        sameFault("1", NONE);
        sameFault("1+", 2);
        sameFault("1+*", 2);
        sameFault("+1", 0);
        sameFault("*", 0);
        sameFault(")", 0);
        sameFault(",", 0);
        sameFault(".", 0);
        sameFault("1+2-3*4/5", NONE);
        sameFault("1,2", 1);
        sameFault("1)", 1);
        sameFault("(1", 2);
        sameFault("(1)", NONE);
        sameFault("(1))", 3);
        sameFault("((1)", 4);
        sameFault("()", 1);
        sameFault("(1,2)", 2);
        sameFault("(1)2", 3);
        sameFault("(1)(", 3);
        sameFault("--1", NONE);
        sameFault("1--1", NONE);
        sameFault("1*-1", NONE);
        sameFault("1-", 2);
        sameFault("-", 1);
        sameFault("1-+1", 2);
        sameFault("1h", 1);
        sameFault("h1", 1);
        sameFault("hh", 1);
        sameFault("((((((((((((((((((((((((((((((((((((((((", 40);
        sameFault("----------------------------------------", 40);
        sameFault("---------------------------------------1", NONE);
        sameFault("(((((((((((((((((((h))))))))))))))))))))", 39);
        sameFault("((((((((((((((((((((h)))))))))))))))))))", 40);
        sameFault("(((((((((((((((((((h)))))))))))))))))))", NONE);
        FlumeRegistry x = write(new FlumeRegistry(), "1");
        same("fault", x.fault(false), NONE);
        same("fault again", x.fault(false), NONE);
        x.type('+');
        same("fault then", x.fault(false), 2);
        x.type('2');
        same("fault then", x.fault(false), NONE);
        same("the text stays", x.wipe(), 3);
        same("fault of x((", write(x, "x((").fault(false), 3);
        same("fault behind a text that was too short", write(x, "1").fault(false), NONE);
        same("fault of 1,", write(x, "1,").fault(false), 1);
    }

    private static void faultsOfNumbers() {
        sentence("4 fault of numbers");
        sameFault("0", NONE);
        sameFault("000", NONE);
        sameFault("999", NONE);
        sameFault("1234", 3);
        sameFault("1.", 2);
        sameFault("1.2", NONE);
        sameFault("1.23", NONE);
        sameFault("1.234", 4);
        sameFault("123.45", NONE);
        sameFault("123.456", 6);
        sameFault("1234.5", 3);
        sameFault("1.+", 2);
        sameFault("1..", 2);
        sameFault("1.2.", 3);
        sameFault("1.23.", 4);
        sameFault("(1.)", 3);
        sameFault("1.h", 2);
        sameFault("h.5", 1);
        sameFault("1.5+2.25*3", NONE);
    }

    private static void faultsOfNames() {
        sentence("4 fault of names");
        for (char name = 'a'; name <= 'z'; name++) {
            String text = String.valueOf(name);
            boolean isFunction = "xnita".indexOf(name) >= 0;
            boolean isCounted = "gmq".indexOf(name) >= 0;
            boolean isModels = "ph".indexOf(name) >= 0;
            boolean isRules = "lfrh".indexOf(name) >= 0;
            same("fault of " + text, fault(text, false), isFunction || isCounted ? 1 : isModels ? NONE : 0);
            same("fault of the rule " + text, fault(text, true), isFunction ? 1 : isRules ? NONE : 0);
        }
        for (int figure = 0; figure < 10; figure++) {
            same("fault of g" + figure, fault("g" + figure, false), figure < 3 ? NONE : 1);
            same("fault of m" + figure, fault("m" + figure, false), figure < 6 ? NONE : 1);
            same("fault of q" + figure, fault("q" + figure, false), figure < 6 ? NONE : 1);
        }
        same("fault of g+", fault("g+", false), 1);
        same("fault of m01", fault("m01", false), 2);
        same("fault of m0.5", fault("m0.5", false), 2);
        same("fault of pp", fault("pp", false), 1);
        same("fault of g0+l", fault("g0+l", false), 3);
        same("fault of the rule l+g0", fault("l+g0", true), 2);
        same("fault of the rule l-f*r/h", fault("l-f*r/h", true), NONE);
        same("fault of the text g0+m1*q2-p/h", fault("g0+m1*q2-p/h", false), NONE);
    }

    private static void faultsOfFunctions() {
        sentence("4 fault of functions");
        sameFault("x(1,2)", NONE);
        sameFault("n(1,2)", NONE);
        sameFault("i(1,2,3)", NONE);
        sameFault("t(1)", NONE);
        sameFault("a(1)", NONE);
        sameFault("x1", 1);
        sameFault("x(", 2);
        sameFault("x()", 2);
        sameFault("x(1)", 3);
        sameFault("x(1,", 4);
        sameFault("x(1,2", 5);
        sameFault("x(1,2,3)", 5);
        sameFault("n(1)", 3);
        sameFault("n(1,2,", 5);
        sameFault("i(1)", 3);
        sameFault("i(1,2)", 5);
        sameFault("i(1,2,3,", 7);
        sameFault("t(1,2)", 3);
        sameFault("a(1,", 3);
        sameFault("t()", 2);
        sameFault("x((1,2),3)", 4);
        sameFault("x(n(1,2),i(h,2+3,(4)))*t(a(-1))", NONE);
        sameFault("x(1,2)x", 6);
        sameFault("t(1).5", 4);
        sameFault("x(1,,2)", 4);
        sameFault("i(1,t(2,3),4)", 7);
    }

    private static void publishes() {
        sentence("5 publish");
        FlumeRegistry x = new FlumeRegistry();
        same("publish", publish(x, 3, "1"), 0);
        same("publish", x.publish(5), 1);
        same("the text stays", x.wipe(), 1);
        same("publish", publish(x, 3, "m5+2"), 2);
        same("latest", x.latest(3), 2);
        same("pin", x.pin(2, 5), 1);
        bits("out of the one before", x.out(0, 0), 1f);
        bits("out", x.out(2, 0), 3f);
        same("publish with q", publish(x, 4, "q3"), 3);
        same("pin by q", x.pin(3, 3), 2);
        fails("publish of -1", INDEX, () -> write(x, "1+").publish(-1));
        fails("publish of 6", INDEX, () -> x.publish(6));
        fails("publish of too short a text", ARGUMENT, () -> x.publish(0));
        fails("publish of a rule", ARGUMENT, () -> write(x, "l").publish(0));
        fails("publish of a rule that names the model too", ARGUMENT, () -> write(x, "m0+l").publish(0));
        fails("publish of nothing", ARGUMENT, () -> write(x, "").publish(0));
        same("no version came of it", publish(x, 0, "1"), 4);
    }

    private static void bindsAnew() {
        sentence("5 publish binds anew");
        FlumeRegistry x = new FlumeRegistry();
        publish(x, 5, "g0");
        publish(x, 4, "m5+1");
        publish(x, 0, "m4+m5");
        publish(x, 1, "q5");
        publish(x, 2, "h");
        publish(x, 3, "m0+m1+m2");
        same("publish", publish(x, 5, "g0*2"), 6);
        // To be bound anew are 4, 0 and 1 at first; 0 rests on 4, so the lowest one is 1, then come 4, 0, 3.
        same("latest of 1", x.latest(1), 7);
        same("latest of 4", x.latest(4), 8);
        same("latest of 0", x.latest(0), 9);
        same("latest of 3", x.latest(3), 10);
        same("latest of 2", x.latest(2), 4);
        same("pin of 4", x.pin(8, 5), 6);
        same("pin of 0", x.pin(9, 4), 8);
        same("pin of 0", x.pin(9, 5), 6);
        same("pin of 3", x.pin(10, 0), 9);
        same("pin of 3", x.pin(10, 1), 7);
        same("pin of 3", x.pin(10, 2), 4);
        same("pin of 3", x.pin(10, 3), NONE);
        same("pin of the old 3", x.pin(5, 0), 2);
        same("pin of the old 0", x.pin(2, 5), 0);
        x.rain(0, 1, 10);
        bits("out of the old 3", x.out(5, 1), 10f + 1f + 10f + 0f + 1f);
        bits("out of 3", x.out(10, 1), 20f + 1f + 20f + 0f + 1f);
        same("publish in the middle", publish(x, 4, "3"), 11);
        same("latest of 0", x.latest(0), 12);
        same("latest of 3", x.latest(3), 13);
        same("latest of 1", x.latest(1), 7);
        bits("out of 3", x.out(13, 1), 3f + 20f + 0f + 1f);
        same("publish on top", publish(x, 3, "m2"), 14);
        same("the next", publish(x, 2, "4"), 15);
        same("latest of 3", x.latest(3), 16);
        same("the next", publish(x, 3, "7"), 17);
        bits("the old text is bound anew no more", x.out(x.latest(3), 0), 7f);
    }

    private static void refusesToPublish() {
        sentence("5 publish refuses");
        FlumeRegistry x = new FlumeRegistry();
        fails("itself", STATE, () -> publish(x, 0, "m0"));
        fails("none", STATE, () -> publish(x, 0, "m1"));
        fails("none before", STATE, () -> publish(x, 0, "0*q1"));
        publish(x, 0, "1");
        fails("itself", STATE, () -> publish(x, 0, "m0"));
        fails("itself before", STATE, () -> publish(x, 0, "q0+p"));
        publish(x, 1, "m0");
        publish(x, 2, "q1");
        fails("a ring of two", STATE, () -> publish(x, 0, "m1"));
        fails("a ring of three", STATE, () -> publish(x, 0, "m2"));
        fails("a ring of three before", STATE, () -> publish(x, 0, "q2"));
        fails("one of two has none", STATE, () -> publish(x, 3, "m0+m5"));
        same("nothing has changed", x.latest(0), 0);
        same("nothing has changed", x.latest(1), 1);
        same("the next", publish(x, 1, "2"), 3);
        same("a ring no more", publish(x, 0, "m2"), 5);
        same("pin", x.pin(5, 2), 4);
        FlumeRegistry y = new FlumeRegistry();
        publish(y, 1, "1");
        publish(y, 0, "m1");
        fails("a ring of two, the lower one above", STATE, () -> publish(y, 1, "m0"));
        publish(y, 2, "m0");
        fails("a ring of three, the lowest one between", STATE, () -> publish(y, 1, "m2"));
        y.retire(2);
        fails("model 0 rests on it", STATE, () -> y.retire(1));
    }

    private static void mostVersions() {
        sentence("5 publish, 60 versions");
        FlumeRegistry x = new FlumeRegistry();
        publish(x, 0, "1");
        publish(x, 1, "m0");
        publish(x, 2, "2");
        for (int number = 3; number < 58; number++) {
            same("publish", x.publish(2), number);
        }
        same("two of 58 and 59", publish(x, 0, "3"), 58);
        same("latest", x.latest(1), 59);
        fails("the 61st", STATE, () -> x.publish(2));
        fails("the 61st that is no text", ARGUMENT, () -> write(x, "(").publish(2));
        bits("out of the last", x.out(59, 200), 3f);
        FlumeRegistry y = new FlumeRegistry();
        publish(y, 0, "1");
        publish(y, 1, "m0");
        publish(y, 2, "2");
        for (int number = 3; number < 59; number++) {
            y.publish(2);
        }
        fails("two of 59 and 60", STATE, () -> y.publish(0));
        same("nothing has changed", y.latest(0), 0);
        same("nothing has changed", y.latest(1), 1);
        same("one of 59", y.publish(1), 59);
        same("latest", y.latest(1), 59);
    }

    private static void retires() {
        sentence("6 retire");
        FlumeRegistry x = new FlumeRegistry();
        fails("-1", INDEX, () -> x.retire(-1));
        fails("6", INDEX, () -> x.retire(6));
        fails("none", STATE, () -> x.retire(0));
        publish(x, 0, "4");
        publish(x, 1, "m0");
        publish(x, 2, "q1");
        fails("one rests on it", STATE, () -> x.retire(0));
        fails("one rests on it by q", STATE, () -> x.retire(1));
        same("latest", x.latest(1), 1);
        same("retire", x.retire(2), 2);
        same("latest", x.latest(2), NONE);
        fails("again", STATE, () -> x.retire(2));
        same("retire", x.retire(1), 1);
        same("retire", x.retire(0), 0);
        bits("the version is still there", x.out(2, 5), 4f);
        same("pin", x.pin(2, 1), 1);
        fails("a retired one can't be named", STATE, () -> publish(x, 3, "m0"));
        same("a new one", publish(x, 0, "5"), 3);
        same("latest", x.latest(0), 3);
        same("none was bound anew", publish(x, 3, "m0"), 4);
        bits("out", x.out(4, 0), 5f);
    }

    private static void latests() {
        sentence("7 latest");
        FlumeRegistry x = new FlumeRegistry();
        fails("-1", INDEX, () -> x.latest(-1));
        fails("6", INDEX, () -> x.latest(6));
        same("none", x.latest(5), NONE);
        publish(x, 5, "1");
        same("one", x.latest(5), 0);
        x.publish(5);
        x.publish(4);
        same("two", x.latest(5), 1);
        same("another", x.latest(4), 2);
    }

    private static void pins() {
        sentence("8 pin");
        FlumeRegistry x = new FlumeRegistry();
        publish(x, 0, "1");
        publish(x, 5, "2");
        publish(x, 3, "m5*0+q0+q5+p");
        same("pin", x.pin(2, 0), 0);
        same("pin", x.pin(2, 5), 1);
        same("none", x.pin(2, 1), NONE);
        same("itself", x.pin(2, 3), NONE);
        fails("version -1", INDEX, () -> x.pin(-1, 0));
        fails("version 3", INDEX, () -> x.pin(3, 0));
        fails("model -1", INDEX, () -> x.pin(0, -1));
        fails("model 6", INDEX, () -> x.pin(0, 6));
        publish(x, 4, "m3");
        same("not what those pin", x.pin(3, 0), NONE);
        same("pin", x.pin(3, 3), 2);
    }

    private static void rains() {
        sentence("9 rain");
        FlumeRegistry x = new FlumeRegistry();
        same("first", x.rain(0, 0, 500), 0);
        same("second", x.rain(0, 0, 0), 500);
        same("third", x.rain(0, 0, 7), 0);
        same("fourth", x.rain(0, 0, 7), 7);
        same("another gauge", x.rain(1, 0, 3), 0);
        same("another hour", x.rain(0, 200, 4), 0);
        same("the last", x.rain(2, 200, 5), 0);
        fails("gauge -1", INDEX, () -> x.rain(-1, 201, 0));
        fails("gauge 3", INDEX, () -> x.rain(3, 0, 501));
        fails("hour -1", ARGUMENT, () -> x.rain(0, -1, 0));
        fails("hour 201", ARGUMENT, () -> x.rain(0, 201, 0));
        fails("millimetres -1", ARGUMENT, () -> x.rain(0, 0, -1));
        fails("millimetres 501", ARGUMENT, () -> x.rain(0, 0, 501));
        same("nothing has changed", x.rain(0, 0, 1), 7);
        publish(x, 0, "g0+g1*10+g2*100");
        bits("all gauges", x.out(0, 0), 31f);
        bits("all gauges", x.out(0, 200), 504f);
        x.pass(5);
        same("a rain of an hour that has passed", x.rain(1, 0, 9), 3);
        bits("all gauges", x.out(0, 0), 91f);
    }

    private static void outs() {
        sentence("10 out");
        FlumeRegistry x = new FlumeRegistry();
        publish(x, 0, "p+g0");
        publish(x, 1, "m0*10+q0");
        publish(x, 2, "q1+h");
        x.rain(0, 0, 1);
        x.rain(0, 2, 3);
        bits("own output", x.out(0, 0), 1f);
        bits("own output", x.out(0, 1), 1f);
        bits("own output", x.out(0, 200), 4f);
        bits("the hour before is 0", x.out(1, 0), 10f);
        bits("the hour before", x.out(1, 1), 11f);
        bits("the hour before", x.out(1, 2), 41f);
        bits("the hour before is 0", x.out(2, 0), 0f);
        bits("the hour before", x.out(2, 3), 44f);
        x.rain(0, 1, 2);
        bits("another rain", x.out(0, 0), 1f);
        bits("another rain", x.out(0, 1), 3f);
        bits("another rain", x.out(2, 3), 66f);
        bits("another rain", x.out(2, 200), 266f);
        x.rain(0, 200, 9);
        bits("the last rain", x.out(0, 199), 6f);
        bits("the last rain", x.out(0, 200), 15f);
        publish(x, 0, "0-2");
        bits("the old one", x.out(0, 200), 15f);
        bits("the old one", x.out(2, 3), 66f);
        bits("the new one", x.out(x.latest(2), 3), -19f);
        fails("version -1", INDEX, () -> x.out(-1, 201));
        fails("version 6", INDEX, () -> x.out(6, 0));
        fails("hour -1", ARGUMENT, () -> x.out(0, -1));
        fails("hour 201", ARGUMENT, () -> x.out(0, 201));
    }

    private static void workings() {
        sentence("10 out of texts");
        gives("0.1", 0.1f);
        gives("0.10", 0.1f);
        gives("0.05", 0.05f);
        gives("12.3", 1230f / 100f);
        gives("999.99", 99999f / 100f);
        gives("007", 7f);
        gives("9-3-2", 4f);
        gives("9-3+2", 8f);
        gives("24/4/2", 3f);
        gives("24/4*2", 12f);
        gives("2+3*4", 14f);
        gives("2*3+4", 10f);
        gives("(2+3)*4", 20f);
        gives("-2*3", -6f);
        gives("2*-3", -6f);
        gives("2--3", 5f);
        gives("---3", -3f);
        gives("-(2+3)*2", -10f);
        gives("9-2*3-1", 2f);
        gives("0.1+0.2+0.3", 0.1f + 0.2f + 0.3f);
        gives("0.1+(0.2+0.3)", 0.1f + (0.2f + 0.3f));
        gives("1/3", 1f / 3f);
        gives("1/3*3", 1f / 3f * 3f);
        gives("2/(3*3)", 2f / 9f);
        gives("x(1,2)", 2f);
        gives("x(2,1)", 2f);
        gives("x(-2,-1)", -1f);
        gives("n(1,2)", 1f);
        gives("n(2,1)", 1f);
        gives("i(1,2,3)", 2f);
        gives("i(0,2,3)", 3f);
        gives("i(-1,2,3)", 3f);
        gives("i(0.01,2,3)", 2f);
        gives("t(2.99)", 2f);
        gives("t(-2.99)", -2f);
        gives("a(-2.5)", 2.5f);
        gives("a(2.5)", 2.5f);
        gives("a(0.5)", 0.5f);
        gives("a(-0.5)", 0.5f);
        gives("h", 3f);
        gives("x(n(1,2)+3,4*5)-i(1-1,2,a(-7))", 13f);
        gives("-x(1,2)", -2f);
        gives("10-x(1,2)*3", 4f);
        gives("x(i(1,2,3),n(4,5))", 4f);
    }

    private static void limits() {
        sentence("10 out at the limits");
        gives("999*999*999*999", 1000000000f);
        gives("-999*999*999*999", -1000000000f);
        gives("999*999*999*999-1-999*999*999*999", 0f);
        gives("999*999*999/999/999/999*2", 999f * 999f * 999f / 999f / 999f / 999f * 2f);
        gives("999*999*999*9/9", 1000000000f / 9f);
        gives("t(999*999*999*999)", 1000000000f);
        gives("t(-999*999*999*999)", -1000000000f);
        gives("1/0", 0f);
        gives("0/0", 0f);
        gives("-1/(1-1)", 0f);
        gives("-0", 0f);
        gives("0*-1", 0f);
        gives("t(-0.5)", 0f);
        gives("a(-0)", 0f);
        gives("n(0,-0)", 0f);
        gives("0/-5", 0f);
        FlumeRegistry x = new FlumeRegistry();
        publish(x, 0, "i(h,p/999,1)");
        float small = 1f;
        for (int hour = 1; hour <= 20; hour++) {
            small = small / 999f;
            bits("ever smaller", x.out(0, hour), small);
        }
        publish(x, 1, "-m0/7");
        bits("among the smallest", x.out(1, 14), -Float.intBitsToFloat(x.out(0, 14)) / 7f);
        publish(x, 2, "i(h,p/2,1)");
        for (int hour = 100; hour <= 155; hour++) {
            same("halves", x.out(2, hour), hour > 149 ? 0 : hour > 126 ? 1 << 149 - hour : 127 - hour << 23);
        }
        publish(x, 3, "1/m2");
        bits("divided by the smallest", x.out(3, 149), 1000000000f);
        bits("divided by none", x.out(3, 150), 0f);
        publish(x, 4, "i(h,p*2+1.01,1)");
        float great = 1f;
        for (int hour = 1; hour <= 40; hour++) {
            great = Math.min(great * 2f, 1000000000f) + 1.01f;
            great = Math.min(great, 1000000000f);
            bits("ever greater", x.out(4, hour), great);
        }
    }

    private static void outsAnew() {
        sentence("11 outAnew");
        FlumeRegistry x = new FlumeRegistry();
        publish(x, 0, "p/2+g1");
        publish(x, 1, "q0+m0");
        publish(x, 2, "m1*p+1");
        for (int hour = 0; hour < 30; hour++) {
            x.rain(1, hour * 7 % 31, hour);
            for (int version = 0; version < 3; version++) {
                int anew = x.outAnew(version, hour);
                same("out and outAnew", x.out(version, hour), anew);
                same("outAnew of the last", x.outAnew(version, 200), x.out(version, 200));
            }
        }
        bits("outAnew in the hour 0", x.outAnew(1, 0), Float.intBitsToFloat(x.out(0, 0)));
        publish(x, 0, "3");
        bits("outAnew of an old one", x.outAnew(0, 0), Float.intBitsToFloat(x.out(0, 0)));
        bits("outAnew of a new one", x.outAnew(x.latest(1), 1), 6f);
        fails("version -1", INDEX, () -> x.outAnew(-1, -1));
        fails("version 6", INDEX, () -> x.outAnew(6, 0));
        fails("hour -1", ARGUMENT, () -> x.outAnew(0, -1));
        fails("hour 201", ARGUMENT, () -> x.outAnew(0, 201));
    }

    private static void runs() {
        sentence("12 run");
        FlumeRegistry x = new FlumeRegistry();
        fails("model -1", INDEX, () -> x.run(-1, 0));
        fails("model 6", INDEX, () -> x.run(6, 1));
        fails("hours 0", ARGUMENT, () -> x.run(0, 0));
        fails("hours 49", ARGUMENT, () -> x.run(0, 49));
        fails("no version", STATE, () -> x.run(0, 1));
        publish(x, 0, "h");
        same("run", x.run(0, 48), 0);
        same("peakHour", x.peakHour(0), 48);
        same("run", x.run(0, 1), 1);
        same("peakHour", x.peakHour(1), 1);
        for (int day = 0; day < 8; day++) {
            x.pass(24);
        }
        fails("a last hour of 201", STATE, () -> x.run(0, 9));
        same("a last hour of 200", x.run(0, 8), 2);
        same("peakHour", x.peakHour(2), 200);
        x.pass(8);
        fails("no later hour", STATE, () -> x.run(0, 1));
        fails("hours 0", ARGUMENT, () -> x.run(0, 0));
        x.retire(0);
        fails("retired", STATE, () -> x.run(0, 1));
    }

    private static void mostRuns() {
        sentence("12 run, 40 of them");
        FlumeRegistry x = new FlumeRegistry();
        publish(x, 0, "1");
        for (int number = 0; number < 40; number++) {
            same("run", x.run(0, 1 + number), number);
        }
        fails("the 41st", STATE, () -> x.run(0, 1));
        fails("the 41st for no hours", ARGUMENT, () -> x.run(0, 0));
        same("why", x.why(39), STANDS);
        fails("why", INDEX, () -> x.why(40));
    }

    private static void whys() {
        sentence("13 why");
        FlumeRegistry x = new FlumeRegistry();
        fails("none", INDEX, () -> x.why(0));
        publish(x, 0, "g0");
        publish(x, 1, "m0");
        publish(x, 2, "g2");
        x.run(0, 5);
        x.run(1, 5);
        x.run(2, 5);
        fails("-1", INDEX, () -> x.why(-1));
        fails("3", INDEX, () -> x.why(3));
        same("stands", x.why(0), STANDS);
        x.rain(0, 3, 1);
        same("rained", x.why(0), RAINED);
        same("rained below", x.why(1), RAINED);
        same("another gauge", x.why(2), STANDS);
        publish(x, 0, "g0");
        same("mended goes first", x.why(0), MENDED);
        same("mended below", x.why(1), MENDED);
        same("not mended", x.why(2), STANDS);
        x.retire(2);
        same("retired", x.why(2), MENDED);
        publish(x, 2, "g2");
        same("still not the latest", x.why(2), MENDED);
        x.run(2, 5);
        same("stands", x.why(3), STANDS);
        publish(x, 1, "g1");
        same("one beside it", x.why(3), STANDS);
        x.pass(24);
        same("long past", x.why(3), STANDS);
        x.rain(2, 6, 1);
        same("a rain behind its last hour", x.why(3), STANDS);
        x.rain(2, 5, 1);
        same("a rain in its last hour", x.why(3), RAINED);
    }

    private static void whysOfRain() {
        sentence("13 why of rains");
        FlumeRegistry x = new FlumeRegistry();
        publish(x, 0, "0*g1");
        publish(x, 1, "q0+g0");
        publish(x, 2, "m1");
        x.pass(10);
        x.run(2, 5);
        x.rain(2, 12, 4);
        same("a gauge that is not named", x.why(0), STANDS);
        x.rain(1, 16, 4);
        same("behind its last hour", x.why(0), STANDS);
        x.rain(1, 15, 0);
        same("the same rain", x.why(0), STANDS);
        x.rain(1, 0, 3);
        same("long before, of what is pinned", x.why(0), RAINED);
        x.rain(1, 0, 0);
        same("told back", x.why(0), RAINED);
        x.run(2, 5);
        same("the next one stands", x.why(1), STANDS);
        fails("a rain that is none", ARGUMENT, () -> x.rain(0, 12, 501));
        same("still stands", x.why(1), STANDS);
        x.rain(0, 15, 1);
        same("the other gauge, in its last hour", x.why(1), RAINED);
    }

    private static void peaks() {
        sentence("14 peak, 15 peakHour");
        FlumeRegistry x = new FlumeRegistry();
        fails("peak", INDEX, () -> x.peak(0));
        fails("peakHour", INDEX, () -> x.peakHour(0));
        publish(x, 0, "g0-5");
        x.rain(0, 1, 50);
        x.rain(0, 2, 3);
        x.rain(0, 4, 4);
        x.rain(0, 5, 4);
        x.rain(0, 6, 9);
        x.pass(2);
        x.run(0, 3);
        bits("peak", x.peak(0), -1f);
        same("the first of two hours", x.peakHour(0), 4);
        x.run(0, 1);
        bits("peak", x.peak(1), -2f);
        same("the first hour", x.peakHour(1), 2);
        x.run(0, 4);
        bits("peak", x.peak(2), 4f);
        same("the last hour", x.peakHour(2), 6);
        x.rain(0, 3, 20);
        bits("as it was found", x.peak(0), -1f);
        same("as it was found", x.peakHour(0), 4);
        publish(x, 0, "7");
        bits("as it was found", x.peak(2), 4f);
        fails("peak", INDEX, () -> x.peak(-1));
        fails("peak", INDEX, () -> x.peak(3));
        fails("peakHour", INDEX, () -> x.peakHour(-1));
        fails("peakHour", INDEX, () -> x.peakHour(3));
        x.run(0, 9);
        same("the first hour of all", x.peakHour(3), 2);
    }

    private static void peaksAnew() {
        sentence("16 peakAnew");
        FlumeRegistry x = new FlumeRegistry();
        fails("none", INDEX, () -> x.peakAnew(0));
        publish(x, 0, "g0");
        publish(x, 1, "m0+q0");
        x.pass(3);
        x.run(1, 4);
        bits("peakAnew", x.peakAnew(0), 0f);
        x.rain(0, 1, 90);
        x.rain(0, 8, 80);
        bits("rains outside", x.peakAnew(0), 0f);
        x.rain(0, 2, 5);
        bits("the hour before", x.peakAnew(0), 5f);
        x.rain(0, 7, 40);
        bits("the last hour", x.peakAnew(0), 40f);
        publish(x, 0, "g0*2");
        bits("the same version", x.peakAnew(0), 40f);
        bits("as it was found", x.peak(0), 0f);
        x.pass(24);
        bits("the same hours", x.peakAnew(0), 40f);
        same("why", x.why(0), MENDED);
        fails("-1", INDEX, () -> x.peakAnew(-1));
        fails("1", INDEX, () -> x.peakAnew(1));
    }

    private static void builds() {
        sentence("17 build");
        FlumeRegistry x = new FlumeRegistry();
        fails("dam -1", INDEX, () -> x.build(-1, 0, 0));
        fails("dam 3", INDEX, () -> x.build(3, 0, 1));
        fails("model -1", INDEX, () -> x.build(0, -1, 1));
        fails("model 6", INDEX, () -> x.build(0, 6, 0));
        fails("capacity 0", ARGUMENT, () -> x.build(0, 0, 0));
        fails("capacity 100001", ARGUMENT, () -> x.build(0, 0, 100001));
        x.build(0, 1, 5);
        x.build(1, 1, 100000);
        x.build(2, 5, 1);
        fails("again", STATE, () -> x.build(0, 0, 7));
        fails("again, without capacity", ARGUMENT, () -> x.build(0, 0, 0));
        publish(x, 1, "4");
        x.pass(2);
        bits("level is the capacity", x.level(0), 5f);
        bits("the rest spills", x.below(0, 1), 3f);
        bits("nothing spills", x.level(1), 8f);
        bits("nothing spills", x.below(1, 1), 0f);
        bits("no inflow", x.level(2), 0f);
    }

    private static void rules() {
        sentence("18 rule");
        FlumeRegistry x = new FlumeRegistry();
        fails("dam -1", INDEX, () -> x.rule(-1));
        fails("dam 3", INDEX, () -> write(x, "g0").rule(3));
        fails("no rule", ARGUMENT, () -> x.rule(0));
        fails("too short a rule", ARGUMENT, () -> write(x, "l+").rule(0));
        fails("not built", STATE, () -> write(x, "l").rule(0));
        x.build(0, 0, 100);
        publish(x, 0, "10");
        rule(x, 0, "1");
        same("the text stays", x.wipe(), 1);
        x.pass(1);
        bits("level", x.level(0), 9f);
        fails("a model's text", ARGUMENT, () -> write(x, "p").rule(0));
        x.pass(1);
        bits("the rule stays", x.level(0), 18f);
        rule(x, 0, "l+f/2");
        x.wipe();
        x.pass(1);
        bits("level and inflow", x.level(0), 5f);
        bits("below", x.below(0, 2), 23f);
        rule(x, 0, "h");
        x.pass(1);
        bits("hour", x.below(0, 3), 3f);
        bits("level", x.level(0), 12f);
        rule(x, 0, "0-1");
        x.pass(1);
        bits("below 0", x.below(0, 4), 0f);
        bits("level", x.level(0), 22f);
        rule(x, 0, "l+f+0.01");
        x.pass(1);
        bits("above what it has", x.below(0, 5), 32f);
        bits("level", x.level(0), 0f);
        rule(x, 0, "r+1");
        x.pass(1);
        bits("no run", x.below(0, 6), 1f);
        publish(x, 0, "0.5");
        rule(x, 0, "f/4+l/100");
        float level = Float.intBitsToFloat(x.level(0));
        x.pass(1);
        bits("little is asked", x.below(0, 7), 0.5f / 4f + level / 100f);
        bits("little flows in", x.level(0), level + 0.5f - (0.5f / 4f + level / 100f));
        x.retire(0);
        rule(x, 0, "h/100");
        x.pass(1);
        bits("the hour, without a version", x.below(0, 8), 8f / 100f);
    }

    private static void goesBy() {
        sentence("19 goBy");
        FlumeRegistry x = new FlumeRegistry();
        publish(x, 0, "10");
        publish(x, 1, "5+g0");
        x.run(0, 3);
        x.run(1, 3);
        fails("dam -1", INDEX, () -> x.goBy(-1, 0));
        fails("dam 3", INDEX, () -> x.goBy(3, 0));
        fails("run -1", INDEX, () -> x.goBy(0, -1));
        fails("run 2", INDEX, () -> x.goBy(0, 2));
        fails("not built", STATE, () -> x.goBy(0, 0));
        x.build(0, 1, 1000);
        fails("another model", STATE, () -> x.goBy(0, 0));
        rule(x, 0, "r/2");
        x.pass(1);
        bits("none yet", x.below(0, 0), 0f);
        x.goBy(0, 1);
        x.pass(1);
        bits("the peak", x.below(0, 1), 2.5f);
        x.rain(0, 4, 40);
        x.pass(1);
        bits("still stands", x.below(0, 2), 2.5f);
        x.run(1, 3);
        x.goBy(0, 2);
        x.pass(1);
        bits("another run", x.below(0, 3), Math.min(22.5f, 15f - 2.5f - 2.5f + 5f));
        x.rain(0, 4, 41);
        x.pass(1);
        bits("it stands no more", x.below(0, 4), 0f);
        fails("it stands no more", STATE, () -> x.goBy(0, 2));
        x.goBy(0, 1);
        x.pass(1);
        bits("the old one, long past", x.below(0, 5), 2.5f);
        publish(x, 1, "5");
        fails("mended", STATE, () -> x.goBy(0, 1));
        x.pass(1);
        bits("mended", x.below(0, 6), 0f);
    }

    private static void levels() {
        sentence("20 level");
        FlumeRegistry x = new FlumeRegistry();
        fails("-1", INDEX, () -> x.level(-1));
        fails("3", INDEX, () -> x.level(3));
        bits("not built", x.level(0), 0f);
        publish(x, 0, "g0-0.1");
        x.build(0, 0, 7);
        x.rain(0, 0, 3);
        x.rain(0, 1, 2);
        x.rain(0, 2, 30);
        bits("built", x.level(0), 0f);
        x.pass(1);
        float level = 3f - 0.1f;
        bits("level", x.level(0), level);
        x.pass(1);
        level = level + (2f - 0.1f);
        bits("level", x.level(0), level);
        x.pass(1);
        float left = level + (30f - 0.1f);
        float spills = left - 7f;
        bits("spilt", x.level(0), left - spills);
        bits("spilt", x.below(0, 2), spills);
        x.pass(1);
        bits("an output below 0", x.level(0), left - spills);
        rule(x, 0, "l/3");
        level = left - spills;
        x.pass(1);
        bits("a rule", x.level(0), level - level / 3f);
        FlumeRegistry y = new FlumeRegistry();
        publish(y, 0, "999*999*999");
        y.build(0, 0, 99999);
        rule(y, 0, "0.3");
        float has = 0f + 999f * 999f * 999f;
        float stays = has - 0.3f;
        y.pass(1);
        bits("a flood", y.level(0), stays - (stays - 99999f));
        bits("a flood", y.below(0, 0), 0.3f + (stays - 99999f));
    }

    private static void belows() {
        sentence("21 below");
        FlumeRegistry x = new FlumeRegistry();
        fails("dam -1", INDEX, () -> x.below(-1, 0));
        fails("dam 3", INDEX, () -> x.below(3, -1));
        fails("hour -1", ARGUMENT, () -> x.below(0, -1));
        fails("hour 0", ARGUMENT, () -> x.below(0, 0));
        publish(x, 2, "4");
        x.pass(1);
        bits("not built", x.below(0, 0), 0f);
        x.build(0, 2, 5);
        fails("hour 1", ARGUMENT, () -> x.below(0, 1));
        x.pass(2);
        bits("not built then", x.below(0, 0), 0f);
        bits("below", x.below(0, 1), 0f);
        bits("below", x.below(0, 2), 3f);
        fails("hour 3", ARGUMENT, () -> x.below(0, 3));
        rule(x, 0, "2");
        x.retire(2);
        x.pass(1);
        bits("no latest version", x.below(0, 3), 2f);
        publish(x, 2, "10-2*h");
        x.pass(1);
        bits("flows and spills", x.below(0, 4), 2f);
        publish(x, 2, "10");
        x.pass(1);
        bits("flows and spills", x.below(0, 5), 2f + 6f);
        for (int day = 0; day < 8; day++) {
            x.pass(24);
        }
        x.pass(2);
        bits("hour 199", x.below(0, 199), 10f);
        fails("hour 200", ARGUMENT, () -> x.below(0, 200));
        fails("hour 201", ARGUMENT, () -> x.below(0, 201));
    }

    private static void valleys() {
        sentence("22 valley");
        FlumeRegistry x = new FlumeRegistry();
        fails("dam -1", INDEX, () -> x.valley(-1, -1, 1, 0));
        fails("dam 3", INDEX, () -> x.valley(3, 1, 1, 0));
        fails("people -1", ARGUMENT, () -> x.valley(0, -1, 1, 0));
        fails("people 10001", ARGUMENT, () -> x.valley(0, 10001, 1, 0));
        fails("danger 0", ARGUMENT, () -> x.valley(0, 1, 0, 0));
        fails("danger 100001", ARGUMENT, () -> x.valley(0, 1, 100001, 0));
        fails("hours -1", ARGUMENT, () -> x.valley(0, 1, 1, -1));
        fails("hours 13", ARGUMENT, () -> x.valley(0, 1, 1, 13));
        fails("not built", STATE, () -> x.valley(0, 1, 1, 1));
        publish(x, 0, "8");
        x.build(0, 0, 1);
        x.run(0, 2);
        fails("no valley yet", STATE, () -> x.sound(0, 0));
        x.valley(0, 10000, 100000, 12);
        fails("a peak below the danger", STATE, () -> x.sound(0, 0));
        x.valley(0, 0, 1, 0);
        x.valley(0, 100, 9, 0);
        fails("a peak below the danger", STATE, () -> x.sound(0, 0));
        x.valley(0, 100, 8, 0);
        same("sound", x.sound(0, 0), 0);
        x.valley(0, 60, 9, 0);
        same("those who walk do so already", x.walkers(0), 100);
        x.pass(3);
        same("the danger of now", x.siren(0), WRONG);
        bits("trust", x.trust(0), 0.75f);
        x.valley(0, 50, 8, 0);
        bits("the trust stays", x.trust(0), 0.75f);
        x.run(0, 2);
        x.sound(0, 1);
        same("walkers", x.walkers(1), 37);
    }

    /** A dam that lets all through of a model that gives the rain of gauge 0, and a valley with a danger of 10. */
    private static FlumeRegistry valleyOf(int people, int walking) {
        FlumeRegistry x = new FlumeRegistry();
        publish(x, 0, "g0");
        x.build(0, 0, 100);
        rule(x, 0, "l+f");
        x.valley(0, people, 10, walking);
        return x;
    }

    private static void sounds() {
        sentence("23 sound");
        FlumeRegistry x = valleyOf(100, 0);
        publish(x, 1, "g0");
        x.rain(0, 2, 10);
        x.rain(0, 9, 9);
        x.run(0, 2);
        x.run(1, 2);
        fails("dam -1", INDEX, () -> x.sound(-1, 0));
        fails("dam 3", INDEX, () -> x.sound(3, 0));
        fails("run -1", INDEX, () -> x.sound(0, -1));
        fails("run 2", INDEX, () -> x.sound(0, 2));
        fails("not built", STATE, () -> x.sound(1, 0));
        fails("another model", STATE, () -> x.sound(0, 1));
        x.build(1, 1, 100);
        fails("no valley", STATE, () -> x.sound(1, 1));
        x.valley(1, 1, 10, 0);
        same("sound", x.sound(0, 0), 0);
        fails("one rings", STATE, () -> x.sound(0, 0));
        same("at another dam", x.sound(1, 1), 1);
        x.pass(3);
        same("judged", x.siren(0), RIGHT);
        same("sound again, by a run long past", x.sound(0, 0), 2);
        x.pass(1);
        same("judged", x.siren(2), WRONG);
        x.run(0, 5);
        fails("below the danger", STATE, () -> x.sound(0, 2));
        x.rain(0, 9, 30);
        fails("rained, and told anew", STATE, () -> x.sound(0, 2));
        x.run(0, 5);
        same("why", x.why(3), STANDS);
        x.rain(0, 0, 1);
        fails("rained", STATE, () -> x.sound(0, 3));
        x.run(0, 5);
        publish(x, 0, "g0");
        fails("mended", STATE, () -> x.sound(0, 4));
        x.run(0, 5);
        same("sound", x.sound(0, 5), 3);
    }

    private static void mostSirens() {
        sentence("23 sound, 60 sirens");
        FlumeRegistry x = new FlumeRegistry();
        publish(x, 0, "10");
        x.run(0, 1);
        for (int dam = 0; dam < 3; dam++) {
            x.build(dam, 0, 1);
            x.valley(dam, 10, 9, 0);
        }
        for (int number = 0; number < 60; number++) {
            same("sound", x.sound(number % 3, 0), number);
            if (number % 3 == 2) {
                x.pass(1);
            }
        }
        fails("the 61st", STATE, () -> x.sound(0, 0));
        same("the last", x.siren(59), RIGHT);
    }

    private static void sirens() {
        sentence("24 siren");
        FlumeRegistry x = valleyOf(100, 0);
        fails("none", INDEX, () -> x.siren(0));
        x.rain(0, 3, 10);
        x.run(0, 5);
        x.sound(0, 0);
        same("rings", x.siren(0), RINGS);
        x.pass(3);
        same("rings", x.siren(0), RINGS);
        x.pass(1);
        same("right, as it is not less", x.siren(0), RIGHT);
        x.rain(0, 0, 1);
        x.pass(3);
        same("right for ever", x.siren(0), RIGHT);
        x.rain(0, 9, 40);
        x.run(0, 3);
        x.sound(0, 1);
        x.pass(2);
        same("rings", x.siren(1), RINGS);
        rule(x, 0, "0");
        x.pass(1);
        same("rings, as this is hour 9 of 10", x.siren(1), RINGS);
        x.pass(1);
        same("wrong in the last hour", x.siren(1), WRONG);
        x.rain(0, 13, 40);
        x.run(0, 3);
        x.sound(0, 2);
        x.rain(0, 15, 1);
        x.pass(1);
        same("a rain behind it", x.siren(2), RINGS);
        x.rain(0, 13, 41);
        same("not judged yet", x.siren(2), RINGS);
        rule(x, 0, "l");
        x.pass(1);
        bits("a flood", x.below(0, 12), 40f);
        same("withdrawn, though there is a flood", x.siren(2), WITHDRAWN);
        x.run(0, 4);
        x.sound(0, 3);
        x.retire(0);
        x.pass(1);
        same("withdrawn, as it is mended", x.siren(3), WITHDRAWN);
        fails("-1", INDEX, () -> x.siren(-1));
        fails("4", INDEX, () -> x.siren(4));
    }

    private static void walkersOfSirens() {
        sentence("25 walkers");
        FlumeRegistry x = valleyOf(999, 0);
        fails("none", INDEX, () -> x.walkers(0));
        x.rain(0, 1, 50);
        x.run(0, 1);
        x.sound(0, 0);
        same("all", x.walkers(0), 999);
        x.pass(2);
        x.sound(0, 0);
        x.pass(1);
        bits("trust", x.trust(0), 0.75f);
        same("all of then", x.walkers(1), 999);
        x.sound(0, 0);
        same("three of four", x.walkers(2), (int) (999f * 0.75f));
        x.valley(0, 0, 10, 0);
        x.pass(1);
        x.sound(0, 0);
        same("none is there", x.walkers(3), 0);
        same("as then", x.walkers(2), 749);
        fails("-1", INDEX, () -> x.walkers(-1));
        fails("4", INDEX, () -> x.walkers(4));
    }

    private static void trusts() {
        sentence("26 trust");
        FlumeRegistry x = valleyOf(100, 0);
        bits("first", x.trust(0), 1f);
        bits("no valley", x.trust(1), 1f);
        fails("-1", INDEX, () -> x.trust(-1));
        fails("3", INDEX, () -> x.trust(3));
        x.rain(0, 1, 50);
        x.run(0, 1);
        x.sound(0, 0);
        x.pass(2);
        float trust = 1f;
        bits("right at first", x.trust(0), 1f);
        for (int time = 0; time < 5; time++) {
            x.sound(0, 0);
            x.pass(1);
            trust = trust * 0.75f;
            bits("wrong", x.trust(0), trust);
        }
        x.run(0, 1);
        for (int time = 0; time < 3; time++) {
            x.rain(0, 9 + time, 90);
            x.run(0, 10);
            x.sound(0, 2 + time);
            x.rain(0, 0, time + 1);
            x.pass(1);
            trust = trust * 0.9f;
            bits("withdrawn", x.trust(0), trust);
        }
        for (int time = 0; time < 2; time++) {
            x.rain(0, 10 + time, 80);
            x.run(0, 2);
            x.sound(0, 5 + time);
            x.pass(1);
            float lacks = 1f - trust;
            trust = trust + lacks * 0.5f;
            bits("right", x.trust(0), trust);
        }
        bits("another valley", x.trust(1), 1f);
    }

    private static void saves() {
        sentence("27 saved");
        FlumeRegistry x = valleyOf(100, 2);
        same("first", x.saved(0), 0);
        same("not built", x.saved(1), 0);
        fails("-1", INDEX, () -> x.saved(-1));
        fails("3", INDEX, () -> x.saved(3));
        x.rain(0, 1, 50);
        x.rain(0, 4, 50);
        x.rain(0, 20, 50);
        x.run(0, 1);
        x.sound(0, 0);
        x.pass(2);
        same("one hour is too short", x.saved(0), 0);
        same("though it was right", x.siren(0), RIGHT);
        x.run(0, 2);
        x.sound(0, 1);
        x.pass(3);
        same("two hours are enough", x.saved(0), 100);
        x.run(0, 20);
        x.sound(0, 2);
        x.valley(0, 30, 10, 12);
        x.pass(16);
        same("the hours that they need now", x.saved(0), 200);
        x.valley(0, 30, 10, 0);
        x.rain(0, 21, 50);
        x.run(0, 1);
        x.sound(0, 3);
        x.pass(1);
        same("no hour is needed", x.saved(0), 230);
        x.sound(0, 3);
        x.pass(1);
        same("wrong saves none", x.saved(0), 230);
        x.valley(0, 30, 10, 2);
        x.rain(0, 24, 50);
        x.run(0, 2);
        x.sound(0, 4);
        x.pass(2);
        same("right", x.siren(4 + 1), RIGHT);
        same("one hour is too short, late too", x.saved(0), 230);
        same("another valley", x.saved(1), 0);
    }

    private static void alarms() {
        sentence("28 alarm");
        FlumeRegistry x = new FlumeRegistry();
        publish(x, 0, "g0");
        publish(x, 3, "m0*2");
        x.build(0, 0, 1);
        x.build(1, 1, 1);
        x.build(2, 3, 1);
        x.rain(0, 24, 10);
        same("no valley", x.alarm(), 0);
        x.valley(0, 0, 11, 0);
        x.valley(1, 5, 1, 0);
        x.valley(2, 5, 20, 0);
        same("the last hour, not less", x.alarm(), 4);
        x.valley(0, 0, 10, 0);
        same("two", x.alarm(), 5);
        x.rain(0, 24, 0);
        x.rain(0, 25, 10);
        same("behind the last hour", x.alarm(), 0);
        x.pass(1);
        same("an hour later", x.alarm(), 5);
        x.rain(0, 25, 0);
        x.rain(0, 0, 100);
        same("the hours that have passed", x.alarm(), 0);
        x.rain(0, 1, 10);
        same("the hour of now", x.alarm(), 5);
        publish(x, 1, "3-m0");
        same("three", x.alarm(), 7);
        x.retire(3);
        same("no latest version", x.alarm(), 3);
        same("no run is made", x.run(0, 1), 0);
        for (int number = 1; number < 40; number++) {
            x.run(0, 1);
        }
        same("40 runs", x.alarm(), 3);
        x.rain(0, 200, 10);
        for (int day = 0; day < 8; day++) {
            x.pass(24);
        }
        same("at most up to 200", x.alarm(), 3);
        x.pass(7);
        same("in the hour 200", x.alarm(), 1);
    }

    private static void passes() {
        sentence("29 pass");
        FlumeRegistry x = new FlumeRegistry();
        fails("0", ARGUMENT, () -> x.pass(0));
        fails("-1", ARGUMENT, () -> x.pass(-1));
        fails("25", ARGUMENT, () -> x.pass(25));
        same("pass", x.pass(1), 1);
        same("pass", x.pass(24), 25);
        for (int day = 2; day < 9; day++) {
            same("pass", x.pass(24), 1 + 24 * day);
        }
        fails("8 behind 193", STATE, () -> x.pass(8));
        fails("25 behind 193", ARGUMENT, () -> x.pass(25));
        same("pass", x.pass(7), 200);
        fails("1 behind 200", STATE, () -> x.pass(1));
        FlumeRegistry y = valleyOf(100, 0);
        publish(y, 1, "g0*2");
        y.build(2, 1, 100);
        y.valley(2, 10, 10, 0);
        y.rain(0, 2, 12);
        y.rain(0, 3, 11);
        y.run(0, 3);
        y.run(1, 3);
        y.sound(2, 1);
        y.sound(0, 0);
        same("pass", y.pass(6), 6);
        same("judged hour by hour", y.siren(0), WRONG);
        same("judged hour by hour", y.siren(1), RIGHT);
        bits("the dam with a rule", y.below(0, 2), 12f);
        bits("the dam without one", y.below(2, 3), 0f);
        bits("the dam without one", y.level(2), 46f);
        same("saved", y.saved(0), 100);
        same("saved", y.saved(2), 0);
    }
}
