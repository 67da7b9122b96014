/** The boundary cases of the runs: their hours, their peaks, and what is against them. */
public final class EdgesOfRuns extends Checks {
    public static void main(String[] args) {
        numbered();
        most();
        shortestAndLongest();
        lastHourOfAll();
        noLatestVersion();
        bothHoursCounted();
        everyHourCounted();
        peakBelowZero();
        firstHourOfThePeak();
        peakAsItWasFound();
        peakOfTheLatestVersion();
        stands();
        mendedByItsModel();
        mendedByThoseBelow();
        mendedForEver();
        notMended();
        mendedGoesFirst();
        rainedInItsLastHour();
        rainedBeforeItsFirstHour();
        rainedThenToldBack();
        rainedBeforeItWasMade();
        rainOfTheSameMillimetres();
        rainThatWasRefused();
        gaugesThatAreNamed();
        gaugesOfThosePinned();
        eachRunForItself();
        anew();
        anewOfAnOldVersion();
        anewChangesNothing();
        end("the edges of the runs are as due");
    }

    private static FlumeRegistry of(String text) {
        FlumeRegistry x = new FlumeRegistry();
        publish(x, 0, text);
        return x;
    }

    private static void numbered() {
        sentence("Runs are numbered from 0");
        FlumeRegistry x = of("h");
        fails("why of 0", INDEX, () -> x.why(0));
        same("the first one", x.run(0, 1), 0);
        fails("why of 1", INDEX, () -> x.why(1));
        fails("one that is refused", ARGUMENT, () -> x.run(0, 49));
        publish(x, 5, "1");
        same("the second one, of another model", x.run(5, 1), 1);
        fails("why of -1", INDEX, () -> x.why(-1));
        fails("why of 2", INDEX, () -> x.why(2));
        same("alarm", x.alarm(), 0);
        same("no run is made by alarm", x.run(0, 1), 2);
    }

    private static void most() {
        sentence("up to 40");
        FlumeRegistry x = of("h");
        publish(x, 1, "9");
        for (int number = 0; number < 40; number++) {
            same("run", x.run(number % 2, 1 + number), number);
        }
        fails("the 41st", STATE, () -> x.run(0, 1));
        fails("the 41st, of the other model", STATE, () -> x.run(1, 48));
        bits("the peak of the 39th", x.peak(38), 39f);
        bits("the peak of the 40th", x.peak(39), 9f);
        same("the hour of the 39th", x.peakHour(38), 39);
        same("why of the 40th", x.why(39), STANDS);
        fails("why of the 41st", INDEX, () -> x.why(40));
        fails("peak of the 41st", INDEX, () -> x.peak(40));
        x.pass(24);
        x.retire(1);
        fails("the 41st, when some have passed and some are void", STATE, () -> x.run(0, 1));
        same("why of the 40th", x.why(39), MENDED);
    }

    private static void shortestAndLongest() {
        sentence("run: hours: 1 to 48: by how many hours its last one is later than now");
        FlumeRegistry x = of("h");
        for (int hours = 1; hours <= 48; hours += hours < 3 || hours > 44 ? 1 : 7) {
            int run = x.run(0, hours);
            bits("the peak of " + hours + " hours", x.peak(run), hours);
            same("its hour", x.peakHour(run), hours);
        }
        for (int hours : new int[] {0, -1, 49, 50, Integer.MIN_VALUE, Integer.MAX_VALUE}) {
            fails("hours " + hours, ARGUMENT, () -> x.run(0, hours));
        }
        x.pass(10);
        same("from the hour 10 on", x.peakHour(x.run(0, 1)), 11);
        same("from the hour 10 on", x.peakHour(x.run(0, 48)), 58);
    }

    private static void lastHourOfAll() {
        sentence("IllegalStateException if the last hour would be above 200");
        for (int now : new int[] {152, 153, 176, 190, 198, 199}) {
            FlumeRegistry x = later(of("h"), now);
            int most = 200 - now;
            if (most < 48) {
                fails("a last hour of 201", STATE, () -> x.run(0, most + 1));
                fails("48 hours", STATE, () -> x.run(0, 48));
            }
            same("a last hour of 200", x.run(0, most), 0);
            bits("its peak", x.peak(0), 200f);
            same("its hour", x.peakHour(0), 200);
            same("a run of one hour", x.run(0, 1), 1);
            same("its hour", x.peakHour(1), now + 1);
        }
        FlumeRegistry x = later(of("h"), 200);
        fails("no later hour than 200", STATE, () -> x.run(0, 1));
        fails("no later hour than 200", STATE, () -> x.run(0, 48));
    }

    private static void noLatestVersion() {
        sentence("IllegalStateException if the model has no latest version");
        FlumeRegistry x = new FlumeRegistry();
        for (int model = 0; model < 6; model++) {
            int named = model;
            fails("none yet", STATE, () -> x.run(named, 1));
            publish(x, model, "1");
            same("one", x.run(model, 1), model);
        }
        x.retire(3);
        fails("retired", STATE, () -> x.run(3, 1));
        same("another one", x.run(4, 1), 6);
        publish(x, 3, "2");
        same("a new one", x.run(3, 1), 7);
    }

    /** A run with a rain of 3 in its first hour, and one of 30 in another one. */
    private static void peaks(int now, int hours, int rained, float due, int dueHour) {
        FlumeRegistry x = later(of("g0"), now);
        x.rain(0, now, 3);
        x.rain(0, rained, 30);
        x.run(0, hours);
        bits("the peak from " + now + " for " + hours + " with a rain in " + rained, x.peak(0), due);
        same("its hour", x.peakHour(0), dueHour);
        bits("the peak anew", x.peakAnew(0), due);
    }

    private static void bothHoursCounted() {
        sentence("from the hour in which it is made to a later one, both counted");
        for (int hours : new int[] {1, 2, 47, 48}) {
            for (int now : new int[] {0, 1, 9, 151}) {
                peaks(now, hours, now, 30f, now);
                peaks(now, hours, now + hours, 30f, now + hours);
                peaks(now, hours, now + hours + 1, 3f, now);
                if (now > 0) {
                    peaks(now, hours, now - 1, 3f, now);
                }
            }
        }
    }

    private static void everyHourCounted() {
        sentence("its peak is the greatest output of the version in these hours");
        for (int hour = 4; hour <= 52; hour++) {
            FlumeRegistry x = later(of("g1*0.1"), 4);
            x.rain(1, hour, 7);
            x.rain(1, 3, 500);
            x.rain(1, 53, 500);
            x.run(0, 48);
            bits("the peak", x.peak(0), 7f * 0.1f);
            same("its hour", x.peakHour(0), hour);
        }
    }

    private static void peakBelowZero() {
        sentence("the greatest output, even if all are below 0");
        FlumeRegistry x = of("g0-500");
        x.run(0, 5);
        bits("all alike", x.peak(0), -500f);
        same("its hour", x.peakHour(0), 0);
        x.rain(0, 3, 1);
        x.run(0, 5);
        bits("one is greater", x.peak(1), -499f);
        same("its hour", x.peakHour(1), 3);
        x.rain(0, 5, 500);
        x.run(0, 5);
        bits("one is 0", x.peak(2), 0f);
        same("its hour", x.peakHour(2), 5);
        publish(x, 1, "0-999*999*999*999");
        x.run(1, 48);
        bits("the least that there is", x.peak(3), -1000000000f);
        same("its hour", x.peakHour(3), 0);
        bits("the same anew", x.peakAnew(3), -1000000000f);
    }

    private static void firstHourOfThePeak() {
        sentence("peakHour: Returns the first hour of a run with its peak");
        FlumeRegistry x = later(of("g0"), 2);
        for (int hour : new int[] {0, 1, 4, 6, 7}) {
            x.rain(0, hour, 8);
        }
        x.run(0, 5);
        same("one of three", x.peakHour(0), 4);
        x.rain(0, 2, 8);
        x.run(0, 5);
        same("the first hour of the run", x.peakHour(1), 2);
        x.rain(0, 7, 9);
        x.run(0, 5);
        same("the last hour of the run", x.peakHour(2), 7);
        same("as it was found", x.peakHour(0), 4);
        x.pass(24);
        same("as it was found, long past", x.peakHour(0), 4);
    }

    private static void peakAsItWasFound() {
        sentence("with the rains as they are told when it is made; peak: as it was found");
        FlumeRegistry x = of("g0");
        x.rain(0, 2, 10);
        x.run(0, 3);
        x.rain(0, 2, 50);
        bits("another rain", x.peak(0), 10f);
        same("its hour", x.peakHour(0), 2);
        bits("anew", x.peakAnew(0), 50f);
        bits("as it was found, behind peakAnew", x.peak(0), 10f);
        same("its hour, behind peakAnew", x.peakHour(0), 2);
        x.run(0, 3);
        bits("a run that was made since", x.peak(1), 50f);
        publish(x, 0, "g0*2");
        bits("mended", x.peak(0), 10f);
        x.retire(0);
        bits("retired", x.peak(0), 10f);
        x.pass(24);
        bits("long past", x.peak(0), 10f);
    }

    private static void peakOfTheLatestVersion() {
        sentence("run: Makes a run of the latest version of a model, from now on");
        FlumeRegistry x = of("1");
        publish(x, 1, "m0");
        publish(x, 0, "2");
        x.run(0, 1);
        x.run(1, 1);
        bits("of the latest one", x.peak(0), 2f);
        bits("of the one that was bound anew", x.peak(1), 2f);
        same("why", x.why(1), STANDS);
        x.pass(3);
        publish(x, 2, "h");
        x.run(2, 1);
        bits("from now on", x.peak(2), 4f);
    }

    private static void stands() {
        sentence("It stands, unless there is a reason against it");
        FlumeRegistry x = of("g0");
        x.run(0, 2);
        same("at first", x.why(0), STANDS);
        x.pass(2);
        same("in its last hour", x.why(0), STANDS);
        x.pass(1);
        same("when its last hour has passed", x.why(0), STANDS);
        later(x, 197);
        same("in the hour 200", x.why(0), STANDS);
        x.rain(0, 2, 1);
        same("a rain in its last hour, told late", x.why(0), RAINED);
    }

    private static void mendedByItsModel() {
        sentence("MENDED, its version is not the latest of its model any more");
        FlumeRegistry x = of("1");
        x.run(0, 5);
        publish(x, 1, "2");
        same("a version of another model", x.why(0), STANDS);
        publish(x, 0, "1");
        same("a new version with the same text", x.why(0), MENDED);
        x.run(0, 5);
        same("a run of the new one", x.why(1), STANDS);
        x.retire(0);
        same("retired", x.why(1), MENDED);
        same("still mended", x.why(0), MENDED);
    }

    private static void mendedByThoseBelow() {
        sentence("a version that is bound anew is another one");
        FlumeRegistry x = of("1");
        publish(x, 1, "m0");
        publish(x, 2, "q1");
        publish(x, 3, "1");
        for (int model = 0; model < 4; model++) {
            x.run(model, 5);
        }
        publish(x, 1, "m0+1");
        same("the lower one", x.why(0), STANDS);
        same("itself", x.why(1), MENDED);
        same("the upper one", x.why(2), MENDED);
        same("one beside it", x.why(3), STANDS);
    }

    private static void mendedForEver() {
        sentence("any more: no later version is that of the run");
        FlumeRegistry x = of("1");
        x.run(0, 5);
        x.retire(0);
        same("retired", x.why(0), MENDED);
        x.publish(0);
        same("the same text again", x.why(0), MENDED);
        x.pass(9);
        same("long past", x.why(0), MENDED);
        bits("the peak is still there", x.peak(0), 1f);
        bits("and found anew", x.peakAnew(0), 1f);
    }

    private static void notMended() {
        sentence("a call that was refused mends nothing");
        FlumeRegistry x = of("1");
        publish(x, 1, "m0");
        x.run(0, 5);
        x.run(1, 5);
        fails("a ring", STATE, () -> publish(x, 0, "m1"));
        fails("no text", ARGUMENT, () -> publish(x, 0, "1+"));
        fails("one rests on it", STATE, () -> x.retire(0));
        same("the lower one", x.why(0), STANDS);
        same("the upper one", x.why(1), STANDS);
        x.retire(1);
        same("the lower one, with none on it", x.why(0), STANDS);
        publish(x, 1, "m0");
        same("the lower one, with a new one on it", x.why(0), STANDS);
    }

    private static void mendedGoesFirst() {
        sentence("the first one of these: MENDED, RAINED");
        FlumeRegistry x = of("g0");
        x.run(0, 5);
        x.run(0, 5);
        x.rain(0, 1, 9);
        same("rained", x.why(0), RAINED);
        publish(x, 0, "g0");
        same("rained, then mended", x.why(0), MENDED);
        x.run(0, 5);
        publish(x, 0, "g0");
        x.rain(0, 1, 10);
        same("mended, then rained", x.why(2), MENDED);
        same("rained, then mended", x.why(1), MENDED);
    }

    private static void rainedInItsLastHour() {
        sentence("a rain in its last hour or an earlier one");
        for (int hours : new int[] {1, 2, 47, 48}) {
            for (int now : new int[] {0, 3, 152}) {
                for (int hour = Math.max(0, now - 1); hour <= Math.min(200, now + hours + 2); hour++) {
                    FlumeRegistry x = later(of("g0"), now);
                    x.run(0, hours);
                    x.rain(0, hour, 1);
                    same("a run from " + now + " for " + hours + ", a rain in " + hour, x.why(0), hour <= now + hours ? RAINED : STANDS);
                }
            }
        }
        FlumeRegistry x = of("g0");
        x.run(0, 48);
        x.rain(0, 49, 1);
        x.rain(0, 200, 1);
        same("behind its last hour", x.why(0), STANDS);
        x.rain(0, 48, 1);
        same("in its last hour", x.why(0), RAINED);
    }

    private static void rainedBeforeItsFirstHour() {
        sentence("or an earlier one: before its first hour too");
        for (int hour : new int[] {0, 1, 18, 19, 20}) {
            FlumeRegistry x = later(of("g2"), 20);
            x.run(0, 1);
            x.rain(2, hour, 1);
            same("a rain in " + hour, x.why(0), RAINED);
        }
    }

    private static void rainedThenToldBack() {
        sentence("has been told as another one since, perhaps told back later");
        FlumeRegistry x = of("g0");
        x.rain(0, 3, 20);
        x.run(0, 5);
        x.rain(0, 3, 21);
        same("another one", x.why(0), RAINED);
        x.rain(0, 3, 20);
        same("told back", x.why(0), RAINED);
        x.rain(0, 3, 20);
        same("told back twice", x.why(0), RAINED);
        x.run(0, 5);
        same("a run that was made since", x.why(1), STANDS);
        x.rain(0, 3, 20);
        same("told as it was", x.why(1), STANDS);
        x.rain(0, 3, 0);
        same("told as at first", x.why(1), RAINED);
    }

    private static void rainedBeforeItWasMade() {
        sentence("since: not before it was made");
        FlumeRegistry x = of("g0");
        x.rain(0, 0, 1);
        x.rain(0, 0, 2);
        x.rain(0, 4, 9);
        x.run(0, 4);
        same("rains of before", x.why(0), STANDS);
        x.pass(6);
        x.rain(0, 5, 9);
        x.run(0, 4);
        same("the old one", x.why(0), STANDS);
        x.rain(0, 5, 8);
        same("the new one", x.why(1), RAINED);
        same("the old one", x.why(0), STANDS);
    }

    private static void rainOfTheSameMillimetres() {
        sentence("as another one: not as the same one");
        FlumeRegistry x = of("g0");
        for (int hour = 0; hour <= 5; hour++) {
            x.rain(0, hour, hour);
        }
        x.run(0, 5);
        for (int hour = 0; hour <= 5; hour++) {
            same("before", x.rain(0, hour, hour), hour);
            same("the same one", x.why(0), STANDS);
        }
        x.rain(0, 5, 4);
        same("another one", x.why(0), RAINED);
    }

    private static void rainThatWasRefused() {
        sentence("a rain that was refused is none");
        FlumeRegistry x = of("g0");
        x.run(0, 5);
        fails("millimetres 501", ARGUMENT, () -> x.rain(0, 3, 501));
        fails("millimetres -1", ARGUMENT, () -> x.rain(0, 3, -1));
        fails("hour -1", ARGUMENT, () -> x.rain(0, -1, 1));
        fails("hour 201", ARGUMENT, () -> x.rain(0, 201, 1));
        fails("gauge 3", INDEX, () -> x.rain(3, 3, 1));
        same("why", x.why(0), STANDS);
    }

    private static void gaugesThatAreNamed() {
        sentence("of a gauge that is named by the text of its version");
        for (int named = 0; named < 3; named++) {
            for (int gauge = 0; gauge < 3; gauge++) {
                for (String text : new String[] {"g" + named, "0*g" + named, "i(0,g" + named + ",1)", "h-g" + named + "/0"}) {
                    FlumeRegistry x = of(text);
                    x.run(0, 5);
                    x.rain(gauge, 2, 1);
                    same("a rain of " + gauge + " and the text " + text, x.why(0), gauge == named ? RAINED : STANDS);
                }
            }
        }
        FlumeRegistry x = of("h");
        x.run(0, 5);
        publish(x, 1, "g0+g1+g2");
        for (int gauge = 0; gauge < 3; gauge++) {
            x.rain(gauge, 0, 1);
        }
        same("none is named", x.why(0), STANDS);
        for (int gauge = 0; gauge < 3; gauge++) {
            x.run(1, 5);
            x.rain(gauge, 0, 2);
            same("all are named", x.why(gauge + 1), RAINED);
        }
    }

    private static void gaugesOfThosePinned() {
        sentence("or by one of those that it pins, and so on");
        for (int gauge = 0; gauge < 3; gauge++) {
            FlumeRegistry x = new FlumeRegistry();
            publish(x, 5, "g" + gauge);
            publish(x, 4, "q5");
            publish(x, 3, "0*m4");
            publish(x, 2, "i(0,m3,1)");
            publish(x, 1, "m2");
            publish(x, 0, "q1");
            for (int model = 0; model < 6; model++) {
                x.run(model, 5);
            }
            x.rain((gauge + 1) % 3, 0, 1);
            x.rain((gauge + 2) % 3, 0, 1);
            for (int model = 0; model < 6; model++) {
                same("the other gauges", x.why(model), STANDS);
            }
            x.rain(gauge, 5, 1);
            for (int model = 0; model < 6; model++) {
                same("the gauge of the lowest, for the model " + model, x.why(model), RAINED);
            }
        }
        FlumeRegistry x = new FlumeRegistry();
        publish(x, 0, "g0");
        publish(x, 1, "g1+m0");
        publish(x, 2, "g2+m1");
        for (int model = 0; model < 3; model++) {
            x.run(model, 5);
        }
        x.rain(2, 0, 1);
        same("of the topmost: the lowest", x.why(0), STANDS);
        same("of the topmost: the middle", x.why(1), STANDS);
        same("of the topmost: itself", x.why(2), RAINED);
        x.rain(1, 0, 1);
        same("of the middle: the lowest", x.why(0), STANDS);
        same("of the middle: itself", x.why(1), RAINED);
        publish(x, 0, "h");
        x.run(1, 5);
        x.run(2, 5);
        x.rain(0, 0, 1);
        same("a gauge that an old version named", x.why(3), STANDS);
        same("a gauge that an old version named", x.why(4), STANDS);
        x.rain(1, 0, 2);
        same("a gauge that is still named", x.why(4), RAINED);
    }

    private static void eachRunForItself() {
        sentence("each run has its own hours, version and reasons");
        FlumeRegistry x = of("g0");
        publish(x, 1, "g1");
        for (int hours = 1; hours <= 10; hours++) {
            x.run(0, hours);
            x.run(1, hours);
        }
        x.rain(0, 6, 1);
        for (int hours = 1; hours <= 10; hours++) {
            same("of the gauge 0, for " + hours, x.why(2 * hours - 2), hours >= 6 ? RAINED : STANDS);
            same("of the gauge 1, for " + hours, x.why(2 * hours - 1), STANDS);
        }
        publish(x, 1, "g1");
        for (int hours = 1; hours <= 10; hours++) {
            same("of the model 0, for " + hours, x.why(2 * hours - 2), hours >= 6 ? RAINED : STANDS);
            same("of the model 1, for " + hours, x.why(2 * hours - 1), MENDED);
        }
    }

    private static void anew() {
        sentence("peakAnew: a run of the same version for the same hours, with the rains of now");
        for (int hour = 3; hour <= 11; hour++) {
            FlumeRegistry x = later(of("g0+g1/2"), 4);
            x.run(0, 6);
            x.pass(7);
            x.rain(0, hour, 11);
            bits("a rain in " + hour, x.peakAnew(0), hour >= 4 && hour <= 10 ? 11f : 0f);
            x.rain(1, hour, 3);
            bits("two rains in " + hour, x.peakAnew(0), hour >= 4 && hour <= 10 ? 12.5f : 0f);
            bits("as it was found", x.peak(0), 0f);
        }
        FlumeRegistry x = of("g0-7");
        x.run(0, 48);
        bits("below 0", x.peakAnew(0), -7f);
        x.rain(0, 48, 2);
        bits("in its last hour", x.peakAnew(0), -5f);
    }

    private static void anewOfAnOldVersion() {
        sentence("peakAnew: of the same version, the latest one or not");
        FlumeRegistry x = of("g0");
        publish(x, 1, "m0*2");
        x.run(1, 5);
        publish(x, 0, "g0*100");
        x.rain(0, 3, 4);
        bits("of the old one", x.peakAnew(0), 8f);
        x.run(1, 5);
        bits("of the new one", x.peakAnew(1), 800f);
        x.retire(1);
        bits("retired", x.peakAnew(1), 800f);
        bits("retired, the old one", x.peakAnew(0), 8f);
    }

    private static void anewChangesNothing() {
        sentence("peakAnew: the peak that a run would have: none is made");
        FlumeRegistry x = of("p+g0");
        x.run(0, 3);
        x.rain(0, 0, 5);
        bits("anew", x.peakAnew(0), 5f);
        same("why", x.why(0), RAINED);
        bits("peak", x.peak(0), 0f);
        same("peakHour", x.peakHour(0), 0);
        bits("out", x.out(0, 200), 5f);
        same("the next run", x.run(0, 3), 1);
        same("its why", x.why(1), STANDS);
        for (int number = 2; number < 40; number++) {
            x.run(0, 1);
        }
        bits("anew, when there are 40", x.peakAnew(39), 5f);
        fails("none behind the last", INDEX, () -> x.peakAnew(40));
    }
}
