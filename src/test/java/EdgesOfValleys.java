/** The boundary cases of the valleys: sirens, walkers, trust, who is saved, alarm. */
public final class EdgesOfValleys extends Checks {
    public static void main(String[] args) {
        rangesOfValleys();
        valleyOfANotBuiltDam();
        valleyInPlace();
        trustStays();
        noValley();
        numbered();
        most();
        mostByThreeDams();
        noSoundWithoutAGoodRun();
        peakAgainstDanger();
        peakAsItWasFound();
        oneSirenAtATime();
        soundAgain();
        walkersByTrust();
        walkersOfThen();
        ringsAtFirst();
        withdrawnByRain();
        withdrawnByMending();
        withdrawnGoesFirst();
        notJudgedBetweenHours();
        rightAtTheDanger();
        rightInTheFirstHour();
        rightInTheLastHour();
        rightBehindTheLastHour();
        wrongInTheLastHour();
        wrongBehindTheLastHour();
        judgedOnce();
        judgedByTheOwnDam();
        judgedByTheValleyOfThen();
        trustAfterEach();
        trustWhenItIsWhole();
        savedByTheHours();
        savedAtOnce();
        savedByAllSirens();
        savedOnlyWhenRight();
        savedOfNone();
        alarmWithoutValleys();
        alarmAtTheDanger();
        alarmOfItsHours();
        alarmUpTo200();
        alarmMakesNoRun();
        alarmOfEachDam();
        manyHoursAtOnce();
        end("the edges of the valleys are as due");
    }

    /** Dam 0 lets all through of model 0, which gives a quarter of the rain; its valley has a danger of 10. */
    private static FlumeRegistry valley(int people, int hours) {
        FlumeRegistry x = new FlumeRegistry();
        publish(x, 0, "g0/4");
        x.build(0, 0, 100000);
        rule(x, 0, "l+f");
        x.valley(0, people, 10, hours);
        return x;
    }

    /** The same with a siren that rests on a run of so many hours, which has its peak of 10 in its last one. */
    private static FlumeRegistry ringing(int people, int walking, int hours) {
        FlumeRegistry x = valley(people, walking);
        x.rain(0, hours, 40);
        x.run(0, hours);
        same("sound", x.sound(0, 0), 0);
        return x;
    }

    private static void rangesOfValleys() {
        sentence("valley: people: 0 to 10000; danger: 1 to 100000; hours: 0 to 12");
        FlumeRegistry x = valley(7, 1);
        for (int people : new int[] {-1, 10001, Integer.MIN_VALUE, Integer.MAX_VALUE}) {
            fails("people " + people, ARGUMENT, () -> x.valley(0, people, 10, 1));
        }
        for (int danger : new int[] {0, -1, 100001, Integer.MIN_VALUE, Integer.MAX_VALUE}) {
            fails("danger " + danger, ARGUMENT, () -> x.valley(0, 1, danger, 1));
        }
        for (int hours : new int[] {-1, 13, Integer.MIN_VALUE, Integer.MAX_VALUE}) {
            fails("hours " + hours, ARGUMENT, () -> x.valley(0, 1, 10, hours));
        }
        x.rain(0, 0, 40);
        x.run(0, 1);
        x.sound(0, 0);
        same("the valley from before is there", x.walkers(0), 7);
        x.valley(0, 0, 1, 0);
        x.valley(0, 10000, 100000, 12);
        x.valley(0, 0, 100000, 0);
        x.valley(0, 10000, 1, 12);
    }

    private static void valleyOfANotBuiltDam() {
        sentence("valley: IllegalStateException if the dam is not built");
        FlumeRegistry x = new FlumeRegistry();
        publish(x, 0, "50");
        for (int dam = 0; dam < 3; dam++) {
            int at = dam;
            fails("valley " + dam, STATE, () -> x.valley(at, 1, 1, 1));
            x.build(dam, 0, 10);
            same("there is no valley from before", x.alarm(), (1 << dam) - 1);
            x.valley(dam, 1, 1, 1);
            same("a valley", x.alarm(), (2 << dam) - 1);
        }
    }

    private static void valleyInPlace() {
        sentence("valley: in place of what was told before");
        FlumeRegistry x = valley(100, 0);
        x.rain(0, 5, 40);
        x.run(0, 5);
        x.valley(0, 100, 11, 0);
        fails("a greater danger", STATE, () -> x.sound(0, 0));
        same("a greater danger", x.alarm(), 0);
        x.valley(0, 30, 9, 0);
        same("a lesser danger", x.alarm(), 1);
        same("a lesser danger", x.sound(0, 0), 0);
        same("other people", x.walkers(0), 30);
    }

    private static void trustStays() {
        sentence("valley: its trust stays");
        FlumeRegistry x = ringing(100, 0, 3);
        publish(x, 0, "g0/4");
        x.pass(1);
        bits("trust", x.trust(0), 0.9f);
        x.valley(0, 1000, 20, 3);
        bits("told anew", x.trust(0), 0.9f);
        x.valley(0, 1000, 10, 3);
        x.run(0, 3);
        x.sound(0, 1);
        same("walkers by the trust that stays", x.walkers(1), (int) (1000f * 0.9f));
        x.pass(3);
        same("right", x.siren(1), RIGHT);
        same("saved", x.saved(0), 0);
        x.valley(0, 10, 10, 0);
        x.rain(0, 4, 40);
        x.run(0, 3);
        x.sound(0, 2);
        x.pass(1);
        same("saved", x.saved(0), x.walkers(2));
        x.valley(0, 20, 10, 0);
        same("who was saved stays too", x.saved(0), x.walkers(2));
    }

    private static void noValley() {
        sentence("sound: IllegalStateException if there is no valley");
        FlumeRegistry x = new FlumeRegistry();
        publish(x, 0, "50");
        x.run(0, 5);
        fails("not built", STATE, () -> x.sound(0, 0));
        x.build(0, 0, 10);
        fails("no valley", STATE, () -> x.sound(0, 0));
        x.build(1, 0, 10);
        x.valley(1, 1, 1, 1);
        fails("a valley below another dam", STATE, () -> x.sound(0, 0));
        same("a valley", x.sound(1, 0), 0);
        bits("trust without a valley", x.trust(0), 1f);
        same("saved without a valley", x.saved(0), 0);
    }

    private static void numbered() {
        sentence("Sirens are numbered from 0");
        FlumeRegistry x = valley(100, 0);
        x.rain(0, 9, 40);
        x.run(0, 9);
        fails("siren 0", INDEX, () -> x.siren(0));
        fails("walkers 0", INDEX, () -> x.walkers(0));
        same("the first one", x.sound(0, 0), 0);
        fails("siren 1", INDEX, () -> x.siren(1));
        fails("walkers 1", INDEX, () -> x.walkers(1));
        fails("one that is refused", STATE, () -> x.sound(0, 0));
        x.build(2, 0, 9);
        x.valley(2, 5, 1, 0);
        same("the second one, of another dam", x.sound(2, 0), 1);
        same("walkers", x.walkers(0), 100);
        same("walkers", x.walkers(1), 5);
        fails("siren -1", INDEX, () -> x.siren(-1));
        fails("siren 2", INDEX, () -> x.siren(2));
        fails("walkers -1", INDEX, () -> x.walkers(-1));
        fails("walkers 2", INDEX, () -> x.walkers(2));
    }

    private static void most() {
        sentence("up to 60: of one dam");
        FlumeRegistry x = valley(100, 0);
        x.rain(0, 0, 40);
        x.run(0, 1);
        x.pass(2);
        for (int number = 0; number < 60; number++) {
            same("sound", x.sound(0, 0), number);
            x.pass(1);
            same("siren", x.siren(number), WRONG);
        }
        fails("the 61st", STATE, () -> x.sound(0, 0));
        fails("siren of the 61st", INDEX, () -> x.siren(60));
        fails("walkers of the 61st", INDEX, () -> x.walkers(60));
        same("walkers of the 60th", x.walkers(59), 0);
        x.pass(1);
        same("siren of the 60th", x.siren(59), WRONG);
    }

    private static void mostByThreeDams() {
        sentence("up to 60: of all dams");
        FlumeRegistry x = valley(100, 0);
        for (int dam = 1; dam < 3; dam++) {
            x.build(dam, 0, 1);
            x.valley(dam, 100, 10, 0);
        }
        x.rain(0, 1, 40);
        x.run(0, 1);
        x.pass(2);
        for (int number = 0; number < 58; number++) {
            same("sound", x.sound(number % 2, 0), number);
            if (number % 2 == 1) {
                x.pass(1);
            }
        }
        same("the 59th", x.sound(0, 0), 58);
        same("the 60th", x.sound(1, 0), 59);
        fails("the 61st, at a dam without a siren", STATE, () -> x.sound(2, 0));
        x.pass(1);
        same("the 60th is judged", x.siren(59), WRONG);
        fails("the 61st, when none rings", STATE, () -> x.sound(2, 0));
    }

    private static void noSoundWithoutAGoodRun() {
        sentence("sound: IllegalStateException if the run does not stand, or is of another model than that of the dam");
        FlumeRegistry x = valley(100, 0);
        publish(x, 1, "g0");
        x.rain(0, 3, 40);
        x.run(1, 5);
        fails("another model", STATE, () -> x.sound(0, 0));
        x.run(0, 5);
        x.rain(0, 5, 1);
        fails("rained", STATE, () -> x.sound(0, 1));
        x.rain(0, 5, 0);
        fails("told back", STATE, () -> x.sound(0, 1));
        x.run(0, 5);
        publish(x, 0, "g0/4");
        fails("mended", STATE, () -> x.sound(0, 2));
        x.run(0, 5);
        x.retire(0);
        fails("retired", STATE, () -> x.sound(0, 3));
        publish(x, 0, "g0/4");
        fails("retired, with a new one", STATE, () -> x.sound(0, 3));
        x.run(0, 5);
        same("a good one", x.sound(0, 4), 0);
        fails("none of them has rung", INDEX, () -> x.siren(1));
    }

    private static void peakAgainstDanger() {
        sentence("sound: IllegalStateException if the run has a peak that is less than the danger");
        for (int rain = 38; rain <= 42; rain++) {
            FlumeRegistry x = valley(100, 0);
            x.rain(0, 3, rain);
            x.run(0, 5);
            if (rain < 40) {
                fails("a peak of a quarter of " + rain, STATE, () -> x.sound(0, 0));
            } else {
                same("a peak of a quarter of " + rain, x.sound(0, 0), 0);
            }
        }
        FlumeRegistry x = new FlumeRegistry();
        publish(x, 0, "g0*200");
        x.build(0, 0, 1);
        x.valley(0, 1, 100000, 0);
        x.rain(0, 1, 499);
        x.run(0, 1);
        fails("less than the greatest danger", STATE, () -> x.sound(0, 0));
        x.rain(0, 1, 500);
        x.run(0, 1);
        same("the greatest danger", x.sound(0, 1), 0);
        FlumeRegistry y = new FlumeRegistry();
        publish(y, 0, "g0/100");
        y.build(0, 0, 1);
        y.valley(0, 1, 1, 0);
        y.rain(0, 1, 99);
        y.run(0, 1);
        fails("less than the least danger", STATE, () -> y.sound(0, 0));
        y.rain(0, 1, 100);
        y.run(0, 1);
        same("the least danger", y.sound(0, 1), 0);
    }

    private static void peakAsItWasFound() {
        sentence("a run has the peak that was found when it was made");
        FlumeRegistry x = valley(100, 0);
        x.rain(0, 0, 40);
        x.run(0, 2);
        x.pass(1);
        x.run(0, 2);
        same("an hour of the peak that has passed", x.sound(0, 0), 0);
        x.pass(2);
        fails("a run that was made behind it", STATE, () -> x.sound(0, 1));
    }

    private static void oneSirenAtATime() {
        sentence("sound: IllegalStateException if a siren of the dam RINGS");
        FlumeRegistry x = ringing(100, 0, 3);
        x.run(0, 4);
        fails("by the same run", STATE, () -> x.sound(0, 0));
        fails("by another run", STATE, () -> x.sound(0, 1));
        x.build(1, 0, 1);
        x.valley(1, 5, 10, 0);
        same("at another dam, by the same run", x.sound(1, 0), 1);
        fails("there again", STATE, () -> x.sound(1, 1));
        x.pass(3);
        fails("it still rings", STATE, () -> x.sound(0, 0));
        x.pass(1);
        same("it rings no more", x.siren(0), RIGHT);
        same("again", x.sound(0, 0), 2);
    }

    private static void soundAgain() {
        sentence("a siren that was judged rings no more, whatever became of it");
        FlumeRegistry x = ringing(100, 0, 1);
        x.pass(2);
        same("right", x.siren(0), RIGHT);
        same("behind one that was right", x.sound(0, 0), 1);
        x.pass(1);
        same("wrong", x.siren(1), WRONG);
        same("behind one that was wrong", x.sound(0, 0), 2);
        x.rain(0, 0, 1);
        fails("its run is void, but it rings", STATE, () -> x.sound(0, 0));
        x.pass(1);
        same("withdrawn", x.siren(2), WITHDRAWN);
        x.rain(0, 9, 40);
        x.run(0, 9);
        same("behind one that was withdrawn", x.sound(0, 1), 3);
    }

    private static void walkersByTrust() {
        sentence("as many of the people walk as people, as a float, times the trust, cast to an int");
        for (int people : new int[] {0, 1, 2, 3, 7, 99, 100, 1000, 9999, 10000}) {
            FlumeRegistry x = valley(people, 0);
            x.rain(0, 0, 40);
            x.run(0, 1);
            x.pass(2);
            float trust = 1f;
            for (int number = 0; number < 12; number++) {
                same("sound", x.sound(0, 0), number);
                same("walkers of " + people, x.walkers(number), (int) ((float) people * trust));
                x.pass(1);
                trust = trust * 0.75f;
                bits("trust", x.trust(0), trust);
            }
        }
    }

    private static void walkersOfThen() {
        sentence("walkers: Returns how many walk by a siren: by the people and the trust of then");
        FlumeRegistry x = ringing(1000, 0, 1);
        same("when it rings", x.walkers(0), 1000);
        x.valley(0, 10, 10, 0);
        same("told anew", x.walkers(0), 1000);
        x.pass(2);
        same("when it was judged", x.walkers(0), 1000);
        same("saved", x.saved(0), 1000);
        x.sound(0, 0);
        x.pass(1);
        bits("trust", x.trust(0), 0.75f);
        same("when it was wrong", x.walkers(1), 10);
        x.sound(0, 0);
        same("by the trust of now", x.walkers(2), 7);
    }

    private static void ringsAtFirst() {
        sentence("a siren RINGS at first, until it is judged");
        FlumeRegistry x = ringing(100, 0, 48);
        same("at first", x.siren(0), RINGS);
        for (int hour = 1; hour <= 48; hour++) {
            x.pass(1);
            same("in the hour " + hour, x.siren(0), RINGS);
            bits("trust", x.trust(0), 1f);
        }
        x.pass(1);
        same("when the last hour has passed", x.siren(0), RIGHT);
    }

    private static void withdrawnByRain() {
        sentence("if its run does not stand, it is WITHDRAWN, and the trust becomes itself times 0.9f");
        for (int hour : new int[] {0, 4, 5}) {
            FlumeRegistry x = ringing(100, 0, 5);
            x.pass(1);
            x.rain(0, hour, 41);
            x.pass(1);
            same("a rain in " + hour, x.siren(0), WITHDRAWN);
            bits("trust", x.trust(0), 0.9f);
            same("saved", x.saved(0), 0);
        }
        FlumeRegistry x = ringing(100, 0, 5);
        x.rain(0, 6, 41);
        x.pass(1);
        same("a rain behind its last hour", x.siren(0), RINGS);
        x.rain(0, 5, 41);
        x.rain(0, 5, 40);
        x.pass(1);
        same("a rain that was told back", x.siren(0), WITHDRAWN);
    }

    private static void withdrawnByMending() {
        sentence("if its run does not stand: MENDED too");
        FlumeRegistry x = ringing(100, 0, 5);
        publish(x, 0, "g0/4");
        x.pass(1);
        same("mended", x.siren(0), WITHDRAWN);
        bits("trust", x.trust(0), 0.9f);
        FlumeRegistry y = ringing(100, 0, 5);
        y.retire(0);
        y.pass(1);
        same("retired", y.siren(0), WITHDRAWN);
        FlumeRegistry z = new FlumeRegistry();
        publish(z, 1, "50");
        publish(z, 0, "m1");
        z.build(0, 0, 1000);
        z.valley(0, 10, 10, 0);
        z.run(0, 5);
        z.sound(0, 0);
        publish(z, 1, "50");
        z.pass(1);
        same("bound anew", z.siren(0), WITHDRAWN);
    }

    private static void withdrawnGoesFirst() {
        sentence("if its run does not stand; otherwise, if what was below its dam is not less; otherwise the last hour");
        FlumeRegistry x = ringing(100, 0, 1);
        x.pass(1);
        x.rain(0, 1, 50);
        x.pass(1);
        bits("what was below", x.below(0, 1), 12.5f);
        same("withdrawn, and not right", x.siren(0), WITHDRAWN);
        bits("trust", x.trust(0), 0.9f);
        same("saved", x.saved(0), 0);
        FlumeRegistry y = ringing(100, 0, 1);
        y.pass(1);
        y.rain(0, 1, 0);
        y.pass(1);
        same("withdrawn in the last hour, and not wrong", y.siren(0), WITHDRAWN);
        bits("trust", y.trust(0), 0.9f);
        FlumeRegistry z = ringing(100, 0, 1);
        z.pass(1);
        z.pass(1);
        same("right in the last hour, and not wrong", z.siren(0), RIGHT);
        bits("trust", z.trust(0), 1f);
    }

    private static void notJudgedBetweenHours() {
        sentence("When an hour has passed at all dams, each siren that RINGS is judged");
        FlumeRegistry x = ringing(100, 0, 5);
        x.rain(0, 5, 41);
        same("its run is void", x.why(0), RAINED);
        same("but no hour has passed", x.siren(0), RINGS);
        bits("trust", x.trust(0), 1f);
        x.pass(1);
        same("an hour has passed", x.siren(0), WITHDRAWN);
    }

    private static void rightAtTheDanger() {
        sentence("if what was below its dam in this hour is not less than the danger, it is RIGHT");
        for (int rain = 38; rain <= 42; rain++) {
            FlumeRegistry x = valley(100, 0);
            x.rain(0, 2, rain);
            x.rain(0, 8, 40);
            x.run(0, 8);
            x.sound(0, 0);
            x.pass(3);
            same("a quarter of " + rain + " below", x.siren(0), rain < 40 ? RINGS : RIGHT);
        }
    }

    private static void rightInTheFirstHour() {
        sentence("the hour in which it was sounded is judged too");
        FlumeRegistry x = valley(100, 0);
        x.rain(0, 0, 40);
        x.run(0, 5);
        x.sound(0, 0);
        x.pass(1);
        same("in the hour 0", x.siren(0), RIGHT);
        same("saved", x.saved(0), 100);
        FlumeRegistry y = valley(100, 1);
        y.rain(0, 4, 40);
        y.pass(4);
        y.run(0, 5);
        y.sound(0, 0);
        y.pass(1);
        same("in the hour 4", y.siren(0), RIGHT);
        same("saved, if they need an hour", y.saved(0), 0);
    }

    private static void rightInTheLastHour() {
        sentence("in the last hour of its run it may still be RIGHT");
        FlumeRegistry x = ringing(100, 3, 3);
        x.pass(3);
        same("before", x.siren(0), RINGS);
        x.pass(1);
        same("in the last hour", x.siren(0), RIGHT);
        same("saved", x.saved(0), 100);
    }

    private static void rightBehindTheLastHour() {
        sentence("behind the last hour of its run it may still be RIGHT");
        FlumeRegistry x = valley(100, 0);
        x.rain(0, 1, 40);
        x.rain(0, 6, 44);
        x.run(0, 2);
        x.pass(6);
        x.sound(0, 0);
        x.pass(1);
        same("in the hour 6 of a run up to 2", x.siren(0), RIGHT);
        bits("trust", x.trust(0), 1f);
        same("saved", x.saved(0), 100);
    }

    private static void wrongInTheLastHour() {
        sentence("otherwise, if this is the last hour of its run or a later one, it is WRONG, and the trust becomes itself times 0.75f");
        for (int hours : new int[] {1, 2, 24, 48}) {
            FlumeRegistry x = ringing(100, 0, hours);
            rule(x, 0, "0");
            later(x, hours);
            same("before the last one of " + hours + " hours", x.siren(0), RINGS);
            bits("trust", x.trust(0), 1f);
            x.pass(1);
            same("in the last one of " + hours + " hours", x.siren(0), WRONG);
            bits("trust", x.trust(0), 0.75f);
            same("saved", x.saved(0), 0);
        }
    }

    private static void wrongBehindTheLastHour() {
        sentence("or a later one");
        for (int late = 0; late <= 2; late++) {
            FlumeRegistry x = valley(100, 0);
            x.rain(0, 1, 40);
            x.run(0, 3);
            x.pass(2 + late);
            x.sound(0, 0);
            x.pass(1);
            same("sounded in the hour " + (2 + late) + " by a run up to 3", x.siren(0), late == 0 ? RINGS : WRONG);
            bits("trust", x.trust(0), late == 0 ? 1f : 0.75f);
            x.pass(1);
            same("an hour later", x.siren(0), WRONG);
            bits("trust", x.trust(0), 0.75f);
        }
    }

    private static void judgedOnce() {
        sentence("each siren that RINGS is judged: one that was judged is so no more");
        FlumeRegistry x = ringing(100, 0, 1);
        x.rain(0, 2, 50);
        x.pass(2);
        same("right", x.siren(0), RIGHT);
        x.pass(1);
        same("a flood again", x.saved(0), 100);
        x.rain(0, 0, 5);
        x.pass(3);
        same("its run is void", x.siren(0), RIGHT);
        bits("trust", x.trust(0), 1f);
        FlumeRegistry y = ringing(100, 0, 1);
        rule(y, 0, "0");
        y.pass(2);
        same("wrong", y.siren(0), WRONG);
        rule(y, 0, "l+f");
        y.pass(1);
        bits("a flood", y.below(0, 2), 10f);
        same("wrong for ever", y.siren(0), WRONG);
        bits("trust", y.trust(0), 0.75f);
        same("saved", y.saved(0), 0);
        FlumeRegistry z = ringing(100, 0, 3);
        z.rain(0, 3, 41);
        z.pass(4);
        bits("a flood", z.below(0, 3), 10.25f);
        same("withdrawn for ever", z.siren(0), WITHDRAWN);
        bits("trust", z.trust(0), 0.9f);
        same("saved", z.saved(0), 0);
    }

    private static void judgedByTheOwnDam() {
        sentence("what was below its dam in this hour");
        FlumeRegistry x = valley(100, 0);
        x.build(1, 0, 100000);
        x.valley(1, 60, 10, 0);
        x.rain(0, 2, 40);
        x.run(0, 2);
        x.sound(1, 0);
        x.sound(0, 0);
        x.pass(3);
        same("of the dam that keeps all", x.siren(0), WRONG);
        same("of the dam that lets all through", x.siren(1), RIGHT);
        bits("trust in the valley 0", x.trust(0), 1f);
        bits("trust in the valley 1", x.trust(1), 0.75f);
        bits("trust in no valley", x.trust(2), 1f);
        same("saved in the valley 0", x.saved(0), 100);
        same("saved in the valley 1", x.saved(1), 0);
        sentence("what was below: what flows and what spills, and not the inflow");
        FlumeRegistry y = valley(100, 0);
        rule(y, 0, "n(f,4)");
        y.rain(0, 2, 40);
        y.run(0, 2);
        y.sound(0, 0);
        y.pass(3);
        same("only 4 was below", y.siren(0), WRONG);
        FlumeRegistry z = new FlumeRegistry();
        publish(z, 0, "8");
        z.build(0, 0, 3);
        rule(z, 0, "3");
        z.valley(0, 100, 8, 0);
        z.run(0, 2);
        z.sound(0, 0);
        z.pass(1);
        bits("what was below", z.below(0, 0), 5f);
        same("5 is less than 8", z.siren(0), RINGS);
        z.pass(1);
        bits("what was below", z.below(0, 1), 8f);
        same("3 flow and 5 spill", z.siren(0), RIGHT);
    }

    private static void judgedByTheValleyOfThen() {
        sentence("the danger and the hours of walking are those of the valley when it is judged");
        FlumeRegistry x = ringing(100, 9, 3);
        x.valley(0, 5, 11, 0);
        x.pass(4);
        same("a danger that is greater now", x.siren(0), WRONG);
        FlumeRegistry y = ringing(100, 9, 3);
        y.valley(0, 5, 10, 3);
        y.pass(4);
        same("saved by the hours of now", y.saved(0), 100);
        FlumeRegistry z = ringing(100, 0, 3);
        z.valley(0, 5, 10, 4);
        z.pass(4);
        same("right", z.siren(0), RIGHT);
        same("not saved by the hours of now", z.saved(0), 0);
    }

    private static void trustAfterEach() {
        sentence("lacks is 1f less the trust, the trust becomes itself plus lacks times 0.5f");
        FlumeRegistry x = valley(1000, 0);
        float trust = 1f;
        for (int number = 0; number < 36; number++) {
            int hour = 2 * number;
            x.rain(0, hour + 1, 40);
            x.run(0, 1);
            same("sound", x.sound(0, number), number);
            same("walkers", x.walkers(number), (int) (1000f * trust));
            int kind = number * 7 % 3;
            if (kind == 1) {
                x.rain(0, hour + 1, 39);
            }
            rule(x, 0, kind == 0 ? "l+f" : "0");
            x.pass(2);
            float lacks = 1f - trust;
            trust = kind == 0 ? trust + lacks * 0.5f : trust * (kind == 1 ? 0.9f : 0.75f);
            same("siren " + number, x.siren(number), kind == 0 ? RIGHT : kind == 1 ? WITHDRAWN : WRONG);
            bits("trust behind " + number, x.trust(0), trust);
        }
    }

    private static void trustWhenItIsWhole() {
        sentence("It has a trust, 1f at first");
        FlumeRegistry x = valley(100, 0);
        for (int dam = 0; dam < 3; dam++) {
            bits("at first", x.trust(dam), 1f);
        }
        x.rain(0, 0, 40);
        x.run(0, 1);
        x.sound(0, 0);
        x.pass(1);
        bits("right, and nothing lacks", x.trust(0), 1f);
        float trust = 1f;
        for (int number = 1; number < 60; number++) {
            x.sound(0, 0);
            x.pass(1);
            trust = trust * 0.75f;
        }
        bits("hardly any", x.trust(0), trust);
        fails("siren 60", INDEX, () -> x.siren(60));
        FlumeRegistry y = valley(100, 0);
        y.rain(0, 1, 40);
        y.rain(0, 2, 40);
        y.run(0, 1);
        rule(y, 0, "0");
        y.sound(0, 0);
        y.pass(2);
        rule(y, 0, "l+f");
        trust = 0.75f;
        for (int number = 1; number < 40; number++) {
            y.rain(0, 1 + number, 40);
            y.sound(0, 0);
            y.pass(1);
            float lacks = 1f - trust;
            trust = trust + lacks * 0.5f;
            bits("always right", y.trust(0), trust);
        }
        bits("whole again", y.trust(0), 1f);
    }

    private static void savedByTheHours() {
        sentence("saved if as many hours as they need, or more, are between the hour in which it was sounded and this one");
        for (int walking = 0; walking <= 12; walking++) {
            for (int between = Math.max(0, walking - 1); between <= walking + 1; between++) {
                FlumeRegistry x = valley(100, walking);
                x.rain(0, 5 + between, 40);
                x.pass(5);
                x.run(0, between + 1);
                x.sound(0, 0);
                x.pass(between + 1);
                same("siren", x.siren(0), RIGHT);
                same(between + " hours between, of " + walking, x.saved(0), between >= walking ? 100 : 0);
                x.pass(12);
                same("not later", x.saved(0), between >= walking ? 100 : 0);
            }
        }
    }

    private static void savedAtOnce() {
        sentence("the hour in which it was sounded, not that in which its run was made");
        FlumeRegistry x = valley(100, 3);
        x.rain(0, 6, 40);
        x.run(0, 9);
        x.pass(4);
        x.sound(0, 0);
        x.pass(3);
        same("2 hours between", x.siren(0), RIGHT);
        same("saved", x.saved(0), 0);
    }

    private static void savedByAllSirens() {
        sentence("saved: Returns how many were saved in a valley, by all sirens");
        FlumeRegistry x = valley(10000, 0);
        for (int hour = 0; hour < 60; hour++) {
            x.rain(0, hour, 40);
        }
        x.run(0, 1);
        for (int number = 0; number < 60; number++) {
            x.sound(0, 0);
            x.pass(1);
            same("saved", x.saved(0), 10000 * (number + 1));
        }
        for (int dam = 1; dam < 3; dam++) {
            same("saved in another valley", x.saved(dam), 0);
        }
    }

    private static void savedOnlyWhenRight() {
        sentence("those who walk are saved: if it is RIGHT, and those alone");
        FlumeRegistry x = valley(1000, 0);
        x.rain(0, 0, 40);
        x.run(0, 1);
        x.pass(1);
        x.sound(0, 0);
        x.pass(1);
        same("wrong", x.siren(0), WRONG);
        same("saved", x.saved(0), 0);
        x.rain(0, 3, 40);
        x.run(0, 5);
        x.sound(0, 1);
        same("walkers", x.walkers(1), 750);
        x.pass(2);
        same("right", x.siren(1), RIGHT);
        same("saved, those who walked", x.saved(0), 750);
        x.rain(0, 5, 40);
        x.pass(2);
        same("a flood without a siren", x.saved(0), 750);
    }

    private static void savedOfNone() {
        sentence("valley: people: 0");
        FlumeRegistry x = ringing(0, 0, 1);
        same("walkers", x.walkers(0), 0);
        x.pass(2);
        same("right", x.siren(0), RIGHT);
        same("saved", x.saved(0), 0);
        same("alarm without people", x.rain(0, 9, 40), 0);
        same("alarm without people", x.alarm(), 1);
    }

    private static void alarmWithoutValleys() {
        sentence("alarm: Returns the dams with a valley");
        FlumeRegistry x = new FlumeRegistry();
        same("nothing", x.alarm(), 0);
        publish(x, 0, "50");
        same("no dam", x.alarm(), 0);
        for (int dam = 0; dam < 3; dam++) {
            x.build(dam, 0, 1);
        }
        same("no valley", x.alarm(), 0);
        x.valley(2, 0, 50, 12);
        same("one valley", x.alarm(), 4);
        x.valley(0, 0, 50, 0);
        same("two valleys", x.alarm(), 5);
        x.valley(1, 0, 50, 0);
        same("three valleys", x.alarm(), 7);
        x.retire(0);
        same("no latest version", x.alarm(), 0);
        publish(x, 0, "49.99");
        same("less than the danger", x.alarm(), 0);
        publish(x, 0, "50");
        same("not less than the danger", x.alarm(), 7);
        FlumeRegistry y = new FlumeRegistry();
        y.build(1, 4, 1);
        y.valley(1, 1, 1, 0);
        same("no version yet", y.alarm(), 0);
    }

    private static void alarmAtTheDanger() {
        sentence("alarm: a peak that is not less than the danger");
        for (int rain = 38; rain <= 42; rain++) {
            FlumeRegistry x = valley(1, 0);
            x.rain(0, 20, rain);
            same("a peak of a quarter of " + rain, x.alarm(), rain < 40 ? 0 : 1);
        }
        FlumeRegistry x = new FlumeRegistry();
        publish(x, 0, "0-999");
        x.build(0, 0, 1);
        x.valley(0, 1, 1, 0);
        same("a peak below 0", x.alarm(), 0);
        publish(x, 0, "1");
        same("the least danger", x.alarm(), 1);
        publish(x, 0, "500*200-0.01");
        x.valley(0, 1, 100000, 0);
        same("a little less than the greatest danger", x.alarm(), 500f * 200f - 0.01f < 100000f ? 0 : 1);
        publish(x, 0, "500*200");
        same("the greatest danger", x.alarm(), 1);
    }

    private static void alarmOfItsHours() {
        sentence("alarm: a run, made now for the next 24 hours");
        for (int now : new int[] {0, 1, 50}) {
            for (int hour = Math.max(0, now - 2); hour <= now + 26; hour++) {
                FlumeRegistry x = later(valley(1, 0), now);
                x.rain(0, hour, 40);
                same("in " + now + ", with a rain in " + hour, x.alarm(), hour >= now && hour <= now + 24 ? 1 : 0);
            }
        }
    }

    private static void alarmUpTo200() {
        sentence("alarm: at most up to 200");
        for (int now : new int[] {175, 176, 177, 190, 199, 200}) {
            for (int hour : new int[] {now - 1, now, 199, 200}) {
                FlumeRegistry x = later(valley(1, 0), now);
                x.rain(0, hour, 40);
                same("in " + now + ", with a rain in " + hour, x.alarm(), hour >= now && hour <= now + 24 ? 1 : 0);
            }
        }
    }

    private static void alarmMakesNoRun() {
        sentence("alarm: would have a peak: no run is made");
        FlumeRegistry x = valley(1, 0);
        x.rain(0, 3, 40);
        same("alarm", x.alarm(), 1);
        fails("why", INDEX, () -> x.why(0));
        for (int number = 0; number < 40; number++) {
            x.run(0, 1);
        }
        same("when there are 40 runs", x.alarm(), 1);
        fails("the 41st", STATE, () -> x.run(0, 1));
        x.rain(0, 3, 39);
        same("with the rains of now", x.alarm(), 0);
        same("why of the runs", x.why(39), STANDS);
    }

    private static void alarmOfEachDam() {
        sentence("alarm: as a set: the bit d for the dam d");
        FlumeRegistry x = new FlumeRegistry();
        for (int model = 0; model < 3; model++) {
            publish(x, model, "g" + model);
            x.build(model, model, 1);
            x.valley(model, 1, 10 * (model + 1), 0);
        }
        for (int set = 0; set < 8; set++) {
            for (int gauge = 0; gauge < 3; gauge++) {
                x.rain(gauge, 5, 10 * (gauge + 1) - 1 + (set >> gauge & 1));
            }
            same("alarm", x.alarm(), set);
        }
        sentence("alarm: of the latest version of its model");
        FlumeRegistry y = valley(1, 0);
        publish(y, 1, "m0*2");
        y.build(1, 1, 1);
        y.valley(1, 1, 20, 0);
        y.rain(0, 3, 39);
        same("less", y.alarm(), 0);
        publish(y, 0, "g0/3");
        same("mended, and bound anew", y.alarm(), 3);
    }

    private static void manyHoursAtOnce() {
        sentence("Then it is the next hour: the sirens are judged in each of the hours that pass");
        FlumeRegistry x = ringing(100, 2, 2);
        FlumeRegistry y = ringing(100, 2, 2);
        x.rain(0, 5, 40);
        y.rain(0, 5, 40);
        x.pass(24);
        for (int hour = 0; hour < 24; hour++) {
            y.pass(1);
        }
        same("siren", x.siren(0), RIGHT);
        same("siren, hour by hour", y.siren(0), RIGHT);
        same("saved", x.saved(0), 100);
        same("saved, hour by hour", y.saved(0), 100);
        FlumeRegistry z = ringing(100, 0, 2);
        rule(z, 0, "0");
        z.pass(24);
        same("wrong, once", z.siren(0), WRONG);
        bits("trust", z.trust(0), 0.75f);
    }
}
