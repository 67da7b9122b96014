/** The boundary cases of the dams: what flows in, what is asked, what spills, and what is below. */
public final class EdgesOfDams extends Checks {
    public static void main(String[] args) {
        capacities();
        builtOnce();
        notBuilt();
        builtLater();
        eachDamForItself();
        inflowBelowZero();
        inflowOfNone();
        inflowOfTheLatestVersion();
        inflowHourByHour();
        ruleThatIsNone();
        ruleOfANotBuiltDam();
        ruleInPlace();
        ruleSeesTheLevelBefore();
        ruleSeesTheInflow();
        ruleSeesTheHour();
        noRun();
        runThatStandsNoMore();
        runThatHasPassed();
        goByRefused();
        goByInPlace();
        noRule();
        askedBelowZero();
        askedAboveWhatThereIs();
        spillsOnlyWhatIsAbove();
        spillsBesideWhatFlows();
        oneAfterTheOther();
        flood();
        belowOnlyWhatHasPassed();
        belowBeforeItWasBuilt();
        passes();
        passesToTheLastHour();
        end("the edges of the dams are as due");
    }

    /** A registry with dam 0 for model 0, which has the text. */
    private static FlumeRegistry dam(String text, int capacity) {
        FlumeRegistry x = new FlumeRegistry();
        publish(x, 0, text);
        x.build(0, 0, capacity);
        return x;
    }

    private static void capacities() {
        sentence("build: capacity: 1 to 100000");
        FlumeRegistry x = new FlumeRegistry();
        publish(x, 0, "999*999");
        for (int capacity : new int[] {0, -1, 100001, Integer.MIN_VALUE, Integer.MAX_VALUE}) {
            for (int dam = 0; dam < 3; dam++) {
                int at = dam;
                fails("capacity " + capacity, ARGUMENT, () -> x.build(at, 0, capacity));
            }
        }
        x.build(0, 0, 1);
        x.build(1, 0, 100000);
        x.build(2, 0, 99999);
        x.pass(1);
        float has = 999f * 999f;
        bits("the least one", x.level(0), has - (has - 1f));
        bits("the greatest one", x.level(1), has - (has - 100000f));
        bits("the one below it", x.level(2), has - (has - 99999f));
        bits("below the least one", x.below(0, 0), has - 1f);
        bits("below the greatest one", x.below(1, 0), has - 100000f);
    }

    private static void builtOnce() {
        sentence("build: IllegalStateException if it is built");
        FlumeRegistry x = dam("9", 5);
        publish(x, 1, "1");
        rule(x, 0, "3");
        fails("the same again", STATE, () -> x.build(0, 0, 5));
        fails("another model", STATE, () -> x.build(0, 1, 50));
        x.pass(1);
        bits("capacity, model and rule stay", x.level(0), 5f);
        bits("capacity, model and rule stay", x.below(0, 0), 4f);
        fails("again later", STATE, () -> x.build(0, 0, 5));
        x.build(1, 0, 5);
        fails("another dam again", STATE, () -> x.build(1, 0, 5));
        sentence("a dam may be built for a model without versions, and several for one");
        x.build(2, 5, 7);
        x.pass(1);
        bits("no inflow", x.level(2), 0f);
        publish(x, 5, "2");
        x.pass(1);
        bits("an inflow", x.level(2), 2f);
    }

    private static void notBuilt() {
        sentence("level, below: those of 0f if it is not built");
        FlumeRegistry x = new FlumeRegistry();
        publish(x, 0, "9");
        for (int dam = 0; dam < 3; dam++) {
            int at = dam;
            bits("level", x.level(dam), 0f);
            fails("rule", STATE, () -> write(x, "l").rule(at));
            fails("valley", STATE, () -> x.valley(at, 1, 1, 1));
        }
        x.run(0, 1);
        for (int dam = 0; dam < 3; dam++) {
            int at = dam;
            fails("goBy", STATE, () -> x.goBy(at, 0));
            fails("sound", STATE, () -> x.sound(at, 0));
        }
        x.pass(2);
        for (int dam = 0; dam < 3; dam++) {
            bits("level", x.level(dam), 0f);
            bits("below", x.below(dam, 0), 0f);
            bits("below", x.below(dam, 1), 0f);
        }
    }

    private static void builtLater() {
        sentence("A dam has a level, 0f at first; when an hour passes, for each dam that is built");
        FlumeRegistry x = new FlumeRegistry();
        publish(x, 0, "h+1");
        x.pass(4);
        x.build(0, 0, 100);
        bits("level at first", x.level(0), 0f);
        x.pass(1);
        bits("level, of the hour 4 alone", x.level(0), 5f);
        x.pass(1);
        bits("level, of the hours 4 and 5", x.level(0), 11f);
    }

    private static void eachDamForItself() {
        sentence("each dam has its own model, capacity, level and rule");
        FlumeRegistry x = new FlumeRegistry();
        for (int model = 0; model < 3; model++) {
            publish(x, model, "" + (model + 1));
            x.build(model, 2 - model, 4 * (model + 1));
        }
        rule(x, 1, "1");
        x.pass(3);
        bits("level of 0", x.level(0), 4f);
        bits("level of 1", x.level(1), 3f);
        bits("level of 2", x.level(2), 3f);
        bits("below 0", x.below(0, 1), 2f);
        bits("below 0", x.below(0, 2), 3f);
        bits("below 1", x.below(1, 2), 1f);
        bits("below 2", x.below(2, 2), 0f);
        FlumeRegistry y = new FlumeRegistry();
        publish(y, 3, "2");
        y.build(0, 3, 10);
        y.build(2, 3, 10);
        rule(y, 2, "0.5");
        y.pass(2);
        bits("two dams of one model", y.level(0), 4f);
        bits("two dams of one model", y.level(2), 3f);
        bits("between them", y.level(1), 0f);
    }

    private static void inflowBelowZero() {
        sentence("its inflow is the output, but 0f if that is below 0");
        FlumeRegistry x = dam("g0-5", 100);
        x.rain(0, 0, 8);
        x.rain(0, 2, 5);
        x.rain(0, 3, 6);
        x.pass(1);
        bits("above 0", x.level(0), 3f);
        x.pass(1);
        bits("below 0", x.level(0), 3f);
        x.pass(1);
        bits("0", x.level(0), 3f);
        x.pass(1);
        bits("above 0", x.level(0), 4f);
        rule(x, 0, "f+1");
        x.pass(1);
        bits("the rule is given 0f too", x.below(0, 4), 1f);
        publish(x, 0, "0-0.01");
        x.pass(1);
        bits("a little below 0", x.below(0, 5), 1f);
        publish(x, 0, "0.01");
        x.pass(1);
        bits("a little above 0", x.below(0, 6), 1.01f);
        FlumeRegistry y = dam("i(h,p/999,1)", 100);
        rule(y, 0, "f");
        y.pass(5);
        float inflow = 1f;
        for (int hour = 0; hour < 5; hour++) {
            bits("hardly above 0", y.below(0, hour), inflow);
            inflow = inflow / 999f;
        }
    }

    private static void inflowOfNone() {
        sentence("0f if there is none");
        FlumeRegistry x = new FlumeRegistry();
        x.build(0, 0, 100);
        rule(x, 0, "f+0.5");
        x.pass(1);
        bits("no version yet", x.level(0), 0f);
        bits("no version yet", x.below(0, 0), 0f);
        publish(x, 0, "4");
        rule(x, 0, "f-1");
        x.pass(1);
        bits("a version", x.level(0), 1f);
        x.retire(0);
        rule(x, 0, "f+0.25");
        x.pass(1);
        bits("retired", x.level(0), 0.75f);
        bits("the rule goes on", x.below(0, 2), 0.25f);
        publish(x, 0, "4");
        x.pass(1);
        bits("a new one", x.level(0), 0.5f);
    }

    private static void inflowOfTheLatestVersion() {
        sentence("the output of the latest version of its model in that hour");
        FlumeRegistry x = dam("1", 100);
        publish(x, 1, "m0*10");
        x.build(1, 1, 100);
        x.pass(1);
        publish(x, 0, "2");
        x.pass(1);
        bits("its own", x.level(0), 3f);
        bits("bound anew", x.level(1), 30f);
        sentence("in that hour: with the rains as they are told then");
        FlumeRegistry y = dam("g0", 100);
        y.rain(0, 1, 7);
        y.pass(1);
        y.rain(0, 0, 50);
        bits("a rain that was told too late", y.level(0), 0f);
        y.pass(1);
        y.rain(0, 1, 9);
        bits("the rain of then", y.level(0), 7f);
        bits("below", y.below(0, 0), 0f);
    }

    private static void inflowHourByHour() {
        sentence("When an hour passes: each one of those that pass has its own inflow");
        FlumeRegistry x = dam("h+p", 100000);
        FlumeRegistry y = dam("h+p", 100000);
        rule(x, 0, "f/2");
        rule(y, 0, "f/2");
        x.pass(24);
        for (int hour = 0; hour < 24; hour++) {
            y.pass(1);
        }
        same("level", x.level(0), y.level(0));
        for (int hour = 0; hour < 24; hour++) {
            bits("below", x.below(0, hour), hour * (hour + 1) / 2 / 2f);
            same("below", x.below(0, hour), y.below(0, hour));
        }
    }

    private static void ruleThatIsNone() {
        sentence("rule: IllegalArgumentException if the text is no rule");
        FlumeRegistry x = dam("10", 100);
        rule(x, 0, "1");
        for (String text : new String[] {"", "l+", "g0", "m0", "q0", "p", "1)", "(1", "l+p", "1.", "x(1)"}) {
            write(x, text);
            fails("the text " + text, ARGUMENT, () -> x.rule(0));
        }
        x.pass(1);
        bits("the rule stays", x.below(0, 0), 1f);
    }

    private static void ruleOfANotBuiltDam() {
        sentence("rule: IllegalStateException if it is not built");
        FlumeRegistry x = new FlumeRegistry();
        publish(x, 0, "10");
        write(x, "1");
        fails("not built", STATE, () -> x.rule(0));
        x.build(0, 0, 100);
        x.pass(1);
        bits("it has no rule from before", x.below(0, 0), 0f);
        x.rule(0);
        x.pass(1);
        bits("the text is still there", x.below(0, 1), 1f);
    }

    private static void ruleInPlace() {
        sentence("rule: Gives a dam the text as its rule; the text stays");
        FlumeRegistry x = dam("10", 100);
        x.build(1, 0, 100);
        rule(x, 0, "1");
        x.rule(1);
        same("the text stays", x.fault(true), NONE);
        x.type('+');
        x.pass(1);
        bits("what is typed since has no part in it", x.below(0, 0), 1f);
        x.type('2');
        x.rule(0);
        x.pass(1);
        bits("another rule", x.below(0, 1), 3f);
        bits("the rule of the other dam stays", x.below(1, 1), 1f);
        same("the text stays", x.wipe(), 3);
        x.pass(1);
        bits("the rule stays without the text", x.below(0, 2), 3f);
    }

    private static void ruleSeesTheLevelBefore() {
        sentence("what its rule gives, by the level: the one before the inflow");
        FlumeRegistry x = dam("8", 100);
        rule(x, 0, "l");
        x.pass(1);
        bits("a level of 0", x.below(0, 0), 0f);
        x.pass(1);
        bits("a level of 8", x.below(0, 1), 8f);
        bits("level", x.level(0), 8f);
        rule(x, 0, "l/4");
        x.pass(1);
        bits("a level of 8", x.below(0, 2), 2f);
        x.pass(1);
        bits("a level of 14", x.below(0, 3), 3.5f);
    }

    private static void ruleSeesTheInflow() {
        sentence("by the inflow");
        FlumeRegistry x = dam("h*3", 100);
        rule(x, 0, "f/2");
        x.pass(3);
        for (int hour = 0; hour < 3; hour++) {
            bits("half of it", x.below(0, hour), hour * 1.5f);
        }
        bits("the rest stays", x.level(0), 4.5f);
    }

    private static void ruleSeesTheHour() {
        sentence("by the hour: the one that passes");
        FlumeRegistry x = dam("500", 100000);
        rule(x, 0, "h");
        later(x, 200);
        for (int hour : new int[] {0, 1, 24, 25, 199}) {
            bits("below in " + hour, x.below(0, hour), hour);
        }
        FlumeRegistry y = dam("500", 100000);
        rule(y, 0, "h");
        y.pass(4);
        y.out(0, 200);
        y.pass(1);
        bits("below in 4, when outputs are kept up to 200", y.below(0, 4), 4f);
        y.retire(0);
        y.pass(2);
        bits("below in 6, without a latest version", y.below(0, 6), 6f);
    }

    private static void noRun() {
        sentence("the peak of the run that it goes by, or 0f if there is none");
        FlumeRegistry x = dam("10", 100);
        x.run(0, 5);
        rule(x, 0, "r+1");
        x.pass(1);
        bits("none", x.below(0, 0), 1f);
        x.goBy(0, 0);
        rule(x, 0, "r/4");
        x.pass(1);
        bits("one", x.below(0, 1), 2.5f);
        x.build(1, 0, 100);
        rule(x, 1, "r+2");
        x.pass(1);
        bits("the other dam has none", x.below(1, 2), 2f);
        sentence("a peak below 0 is given as it is");
        FlumeRegistry y = dam("g0-3", 100);
        y.rain(0, 9, 13);
        y.run(0, 2);
        y.goBy(0, 0);
        later(y, 9);
        rule(y, 0, "r+5");
        y.pass(1);
        bits("below", y.below(0, 9), 2f);
    }

    private static void runThatStandsNoMore() {
        sentence("the peak of the run that it goes by, or 0f if that does not stand");
        FlumeRegistry x = dam("10+g0", 100);
        rule(x, 0, "r/4+1");
        x.run(0, 24);
        x.goBy(0, 0);
        x.pass(1);
        bits("it stands", x.below(0, 0), 3.5f);
        x.rain(0, 24, 3);
        x.pass(1);
        bits("rained", x.below(0, 1), 1f);
        x.rain(0, 24, 0);
        x.pass(1);
        bits("told back", x.below(0, 2), 1f);
        x.run(0, 24);
        x.goBy(0, 1);
        x.pass(1);
        bits("another one stands", x.below(0, 3), 3.5f);
        publish(x, 0, "10+g0");
        x.pass(1);
        bits("mended", x.below(0, 4), 1f);
        x.run(0, 2);
        x.pass(1);
        bits("a new one by which it doesn't go", x.below(0, 5), 1f);
        x.goBy(0, 2);
        x.pass(1);
        bits("a new one", x.below(0, 6), 3.5f);
        x.retire(0);
        x.pass(1);
        bits("retired", x.below(0, 7), 1f);
    }

    private static void runThatHasPassed() {
        sentence("a run whose last hour has passed stands still");
        FlumeRegistry x = dam("10", 1000);
        rule(x, 0, "r/4");
        x.run(0, 1);
        x.goBy(0, 0);
        x.pass(24);
        bits("long past", x.below(0, 23), 2.5f);
        x.build(1, 0, 100);
        x.goBy(1, 0);
        x.rule(1);
        x.pass(1);
        bits("long past, for another dam", x.below(1, 24), 2.5f);
    }

    private static void goByRefused() {
        sentence("goBy: IllegalStateException if the dam is not built, the run does not stand, or is of another model");
        FlumeRegistry x = dam("10", 100);
        publish(x, 1, "g1+20");
        x.build(1, 1, 100);
        x.run(0, 24);
        x.run(1, 24);
        fails("not built", STATE, () -> x.goBy(2, 0));
        fails("another model", STATE, () -> x.goBy(0, 1));
        fails("another model", STATE, () -> x.goBy(1, 0));
        rule(x, 0, "r");
        x.goBy(0, 0);
        fails("another model", STATE, () -> x.goBy(0, 1));
        x.pass(1);
        bits("the one before stays", x.below(0, 0), 10f);
        x.rain(1, 24, 1);
        fails("rained", STATE, () -> x.goBy(1, 1));
        x.run(1, 24);
        x.goBy(1, 2);
        publish(x, 1, "20");
        fails("mended", STATE, () -> x.goBy(1, 2));
        x.retire(1);
        fails("retired", STATE, () -> x.goBy(1, 2));
        fails("a run that is none", INDEX, () -> x.goBy(0, 3));
        x.build(2, 0, 100);
        x.goBy(2, 0);
        fails("not built, run that is none", INDEX, () -> new FlumeRegistry().goBy(0, 0));
    }

    private static void goByInPlace() {
        sentence("goBy: Lets a dam go by a run, in place of the one before");
        FlumeRegistry x = dam("10+g0", 1000);
        rule(x, 0, "r/2");
        x.run(0, 5);
        x.rain(0, 6, 30);
        x.run(0, 10);
        x.goBy(0, 0);
        x.pass(1);
        bits("the first one", x.below(0, 0), 5f);
        x.goBy(0, 1);
        x.pass(1);
        bits("the second one", x.below(0, 1), Math.min(20f, 5f + 10f));
        x.goBy(0, 0);
        x.goBy(0, 0);
        x.pass(1);
        bits("the first one again", x.below(0, 2), 5f);
        x.rain(0, 6, 31);
        x.pass(1);
        bits("a rain behind the last hour of the first one", x.below(0, 3), 5f);
    }

    private static void noRule() {
        sentence("without a rule 0f is asked");
        FlumeRegistry x = dam("10", 25);
        x.run(0, 5);
        x.goBy(0, 0);
        x.pass(2);
        bits("below", x.below(0, 1), 0f);
        bits("level", x.level(0), 20f);
        x.pass(1);
        bits("it spills", x.below(0, 2), 5f);
        bits("level", x.level(0), 25f);
    }

    private static void askedBelowZero() {
        sentence("flows is what is asked, but 0f if that is below 0");
        FlumeRegistry x = dam("10", 100);
        int hour = 0;
        for (String text : new String[] {"-1", "-0.01", "-0.01/9", "0-999*999*999*999", "0", "-0", "l-999"}) {
            rule(x, 0, text);
            x.pass(1);
            bits("below, with the rule " + text, x.below(0, hour), 0f);
            hour++;
            bits("level, with the rule " + text, x.level(0), 10f * hour);
        }
        rule(x, 0, "0.01/9");
        x.pass(1);
        bits("hardly above 0", x.below(0, hour), 0.01f / 9f);
        bits("hardly above 0", x.level(0), 70f + 10f - 0.01f / 9f);
    }

    private static void askedAboveWhatThereIs() {
        sentence("flows is what is asked, but has if it is above");
        FlumeRegistry x = dam("10", 100);
        rule(x, 0, "10");
        x.pass(1);
        bits("just what there is", x.below(0, 0), 10f);
        bits("nothing is left", x.level(0), 0f);
        rule(x, 0, "9.99");
        x.pass(1);
        bits("a little less", x.below(0, 1), 9.99f);
        float level = 10f - 9.99f;
        bits("a little is left", x.level(0), level);
        rule(x, 0, "10.02");
        x.pass(1);
        float has = level + 10f;
        bits("a little more", x.below(0, 2), has);
        bits("nothing is left", x.level(0), 0f);
        rule(x, 0, "999*999*999*999");
        x.pass(1);
        bits("much more", x.below(0, 3), 10f);
        bits("nothing is left", x.level(0), 0f);
        publish(x, 0, "0");
        x.pass(1);
        bits("there is nothing", x.below(0, 4), 0f);
        bits("there is nothing", x.level(0), 0f);
        rule(x, 0, "l+f");
        publish(x, 0, "0.1");
        x.pass(3);
        bits("all that there is", x.below(0, 7), 0.1f);
    }

    private static void spillsOnlyWhatIsAbove() {
        sentence("spills is left less the capacity, but 0f if left is not above that");
        FlumeRegistry x = dam("g0/4", 20);
        x.rain(0, 0, 80);
        x.pass(1);
        bits("left is the capacity", x.below(0, 0), 0f);
        bits("left is the capacity", x.level(0), 20f);
        x.pass(1);
        bits("left is still the capacity", x.below(0, 1), 0f);
        x.rain(0, 2, 1);
        x.pass(1);
        bits("a little above", x.below(0, 2), 0.25f);
        bits("a little above", x.level(0), 20f);
        x.rain(0, 3, 1);
        rule(x, 0, "0.5");
        x.pass(1);
        bits("a little below", x.below(0, 3), 0.5f);
        bits("a little below", x.level(0), 19.75f);
        x.rain(0, 4, 2);
        x.pass(1);
        bits("what flows makes room", x.below(0, 4), 0.5f);
        bits("what flows makes room", x.level(0), 19.75f);
    }

    private static void spillsBesideWhatFlows() {
        sentence("and flows plus spills is below the dam in this hour");
        FlumeRegistry x = dam("10.1", 5);
        rule(x, 0, "3.3");
        float level = 0f;
        for (int hour = 0; hour < 6; hour++) {
            x.pass(1);
            float has = level + 10.1f;
            float left = has - 3.3f;
            float spills = left - 5f;
            level = left - spills;
            bits("below", x.below(0, hour), 3.3f + spills);
            bits("level", x.level(0), level);
        }
    }

    private static void oneAfterTheOther() {
        sentence("Then, one after the other: each single operation gives a float");
        FlumeRegistry x = dam("p*0.7+g0/7", 60);
        rule(x, 0, "l*0.3+f/9");
        float level = 0f;
        float output = 0f;
        for (int hour = 0; hour < 40; hour++) {
            int rain = hour * 37 % 71;
            x.rain(0, hour, rain);
            output = output * 0.7f + (float) rain / 7f;
            float asked = level * 0.3f + output / 9f;
            float has = level + output;
            float flows = asked > has ? has : asked;
            float left = has - flows;
            float spills = left > 60f ? left - 60f : 0f;
            level = left - spills;
            x.pass(1);
            bits("level", x.level(0), level);
            bits("below", x.below(0, hour), flows + spills);
        }
    }

    private static void flood() {
        sentence("has is the level plus the inflow: they are not cut at the limits of texts");
        FlumeRegistry x = dam("999*999*999*999", 100000);
        x.pass(1);
        float most = 1000000000f;
        bits("below", x.below(0, 0), most - 100000f);
        float level = most - (most - 100000f);
        bits("level", x.level(0), level);
        rule(x, 0, "1");
        x.pass(1);
        float left = level + most - 1f;
        bits("below", x.below(0, 1), 1f + (left - 100000f));
        bits("level", x.level(0), left - (left - 100000f));
        rule(x, 0, "999*999*999*999");
        level = left - (left - 100000f);
        x.pass(1);
        left = level + most - most;
        bits("the most that can be asked", x.below(0, 2), most + (left > 100000f ? left - 100000f : 0f));
    }

    private static void belowOnlyWhatHasPassed() {
        sentence("below: hour: 0 to the hour of now, less 1");
        FlumeRegistry x = dam("3", 1);
        int before = 0;
        for (int now : new int[] {0, 1, 2, 24, 199, 200}) {
            later(x, now - before);
            before = now;
            fails("the hour of now", ARGUMENT, () -> x.below(0, now));
            fails("the hour behind it", ARGUMENT, () -> x.below(0, now + 1));
            fails("the hour 201", ARGUMENT, () -> x.below(0, 201));
            fails("the hour -1", ARGUMENT, () -> x.below(0, -1));
            fails("of a dam that is not built", ARGUMENT, () -> x.below(1, now));
            if (now > 0) {
                bits("the last hour that has passed", x.below(0, now - 1), now == 1 ? 2f : 3f);
                bits("the hour 0", x.below(0, 0), 2f);
                bits("of a dam that is not built", x.below(1, now - 1), 0f);
            }
        }
    }

    private static void belowBeforeItWasBuilt() {
        sentence("below: those of 0f if it was not built then");
        FlumeRegistry x = new FlumeRegistry();
        publish(x, 0, "3");
        x.pass(5);
        x.build(0, 0, 1);
        for (int hour = 0; hour < 5; hour++) {
            bits("before", x.below(0, hour), 0f);
        }
        fails("the hour in which it is built", ARGUMENT, () -> x.below(0, 5));
        x.pass(1);
        bits("the hour in which it is built", x.below(0, 5), 2f);
        bits("the hour before", x.below(0, 4), 0f);
    }

    private static void passes() {
        sentence("pass: hours: 1 to 24; returns the hour of now then");
        FlumeRegistry x = new FlumeRegistry();
        int now = 0;
        for (int hours : new int[] {0, -1, 25, 26, 200, Integer.MIN_VALUE, Integer.MAX_VALUE}) {
            fails("pass " + hours, ARGUMENT, () -> x.pass(hours));
        }
        for (int hours : new int[] {1, 24, 2, 23}) {
            now += hours;
            same("pass", x.pass(hours), now);
            fails("pass 25", ARGUMENT, () -> x.pass(25));
            fails("pass 0", ARGUMENT, () -> x.pass(0));
        }
    }

    private static void passesToTheLastHour() {
        sentence("pass: IllegalStateException if it would be above 200");
        for (int hours = 1; hours <= 24; hours++) {
            int last = hours;
            FlumeRegistry x = later(new FlumeRegistry(), 200 - hours);
            if (hours < 24) {
                fails("one hour too many", STATE, () -> x.pass(last + 1));
                fails("24 hours", STATE, () -> x.pass(24));
            }
            same("up to 200", x.pass(hours), 200);
            fails("one hour more", STATE, () -> x.pass(1));
            fails("24 hours more", STATE, () -> x.pass(24));
        }
        FlumeRegistry x = dam("1", 100000);
        later(x, 199);
        fails("2 hours behind 199", STATE, () -> x.pass(2));
        bits("none of them has passed", x.level(0), 199f);
        same("one hour", x.pass(1), 200);
        bits("level", x.level(0), 200f);
        fails("one hour behind 200", STATE, () -> x.pass(1));
        bits("it has not passed", x.level(0), 200f);
    }
}
