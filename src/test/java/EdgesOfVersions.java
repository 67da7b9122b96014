/** The boundary cases of the versions, the rains and the outputs. */
public final class EdgesOfVersions extends Checks {
    public static void main(String[] args) {
        numbered();
        mostOneByOne();
        mostWithThoseBoundAnew();
        pinsOnlyWhatIsNamed();
        pinsTheLatestThen();
        namesItself();
        namesNone();
        ringsAtEachLength();
        ringsByTheLatestTextsOnly();
        retired();
        retiredBelow();
        retiredThenNew();
        latestOne();
        noneIsBoundAnew();
        allAreBoundAnew();
        boundByRisingModels();
        boundBehindThoseBetween();
        boundOnce();
        boundWithTheSameText();
        boundByTheHourBefore();
        oldPinsStay();
        noRainsAtFirst();
        rainsAtTheEdges();
        outsAtTheEdges();
        keptOutputs();
        foundAnew();
        end("the edges of the versions are as due");
    }

    private static void numbered() {
        sentence("Versions are numbered from 0");
        FlumeRegistry x = new FlumeRegistry();
        fails("pin of 0, without versions", INDEX, () -> x.pin(0, 0));
        fails("out of 0, without versions", INDEX, () -> x.out(0, 0));
        same("the first one", publish(x, 5, "1"), 0);
        same("the second one, of another model", publish(x, 0, "1"), 1);
        same("the third one, of the first model", publish(x, 5, "1"), 2);
        fails("a wrong text", ARGUMENT, () -> publish(x, 5, "1+"));
        same("the next, behind one that was refused", publish(x, 5, "1"), 3);
        fails("pin of 4", INDEX, () -> x.pin(4, 0));
        bits("out of 3", x.out(3, 0), 1f);
    }

    private static void mostOneByOne() {
        sentence("up to 60 in all");
        for (int model = 0; model < 6; model++) {
            int of = model;
            FlumeRegistry x = write(new FlumeRegistry(), "h");
            for (int number = 0; number < 60; number++) {
                same("publish", x.publish(number % 2 == 0 ? of : (of + number) % 6), number);
            }
            for (int other = 0; other < 6; other++) {
                int as = other;
                fails("the 61st", STATE, () -> x.publish(as));
            }
            bits("out of the 60th", x.out(59, 200), 200f);
            same("pin of the 60th", x.pin(59, 0), NONE);
            fails("out of the 61st", INDEX, () -> x.out(60, 0));
            fails("pin of the 61st", INDEX, () -> x.pin(60, 0));
        }
        FlumeRegistry y = write(new FlumeRegistry(), "1");
        for (int number = 0; number < 60; number++) {
            y.publish(0);
        }
        same("retire, when there are 60", y.retire(0), 59);
        fails("the 61st, behind one that was retired", STATE, () -> y.publish(0));
        same("latest", y.latest(0), NONE);
    }

    /** A registry in which so many models rest on model 0, and there are so many versions. */
    private static FlumeRegistry resting(int models, int versions) {
        FlumeRegistry x = new FlumeRegistry();
        publish(x, 0, "g0");
        for (int model = 1; model <= models; model++) {
            publish(x, model, model % 2 == 0 ? "q" + (model - 1) : "m" + (model / 2));
        }
        write(x, "h");
        for (int number = models + 1; number < versions; number++) {
            x.publish(5);
        }
        return x;
    }

    private static void mostWithThoseBoundAnew() {
        sentence("IllegalStateException if there would be more than 60 versions");
        for (int models = 0; models <= 4; models++) {
            FlumeRegistry most = resting(models, 59 - models);
            same("publish, with " + models + " bound anew", publish(most, 0, "g1"), 59 - models);
            for (int model = 0; model <= models; model++) {
                same("latest of " + model + " is one of the last", most.latest(model) >= 59 - models ? 1 : 0, 1);
            }
            fails("one more", STATE, () -> most.publish(0));
            FlumeRegistry tooMany = resting(models, 60 - models);
            for (int model = 0; model <= models; model++) {
                same("latest of " + model, tooMany.latest(model), model);
            }
            fails("publish, with " + models + " bound anew", STATE, () -> publish(tooMany, 0, "g1"));
            for (int model = 0; model <= models; model++) {
                same("latest of " + model + ", behind it", tooMany.latest(model), model);
            }
            int next = 60 - models;
            fails("there is no new version", INDEX, () -> tooMany.out(next, 0));
            if (models > 0) {
                same("on the topmost model there is room", tooMany.publish(models), 60 - models);
            }
        }
    }

    private static void pinsOnlyWhatIsNamed() {
        sentence("pins, for each other model that its text names, the version of that which is the latest then");
        FlumeRegistry x = new FlumeRegistry();
        for (int model = 0; model < 6; model++) {
            publish(x, model, "h");
        }
        for (int model = 0; model < 6; model++) {
            for (int other = 0; other < 6; other++) {
                if (other != model) {
                    int before = x.latest(other);
                    int version = publish(x, model, (model + other) % 2 == 0 ? "m" + other : "h+q" + other + "*0");
                    for (int asked = 0; asked < 6; asked++) {
                        same("pin of " + asked + " by one of " + model + " that names " + other, x.pin(version, asked), asked == other ? before : NONE);
                    }
                }
            }
            publish(x, model, "h");
        }
        sentence("pin: Returns the version; NONE if it pins none of this model");
        FlumeRegistry y = new FlumeRegistry();
        for (int model = 0; model < 5; model++) {
            publish(y, model, "g0");
        }
        publish(y, 5, "m0+q1+m2+q3+m4");
        for (int model = 0; model < 5; model++) {
            same("pin of " + model, y.pin(5, model), model);
        }
        same("pin of itself", y.pin(5, 5), NONE);
        same("pin of one that it names where it can't come", y.pin(publish(y, 5, "i(0,m3,1)"), 3), 3);
    }

    private static void pinsTheLatestThen() {
        sentence("the version of that which is the latest then");
        FlumeRegistry x = new FlumeRegistry();
        publish(x, 0, "1");
        publish(x, 0, "2");
        publish(x, 1, "m0");
        same("pin", x.pin(2, 0), 1);
        publish(x, 0, "3");
        same("pin of the old one", x.pin(2, 0), 1);
        same("pin of the new one", x.pin(4, 0), 3);
        bits("out of the old one", x.out(2, 0), 2f);
        bits("out of the new one", x.out(4, 0), 3f);
    }

    private static void namesItself() {
        sentence("IllegalStateException if it names this model");
        FlumeRegistry x = new FlumeRegistry();
        for (int model = 0; model < 6; model++) {
            int of = model;
            fails("m" + model + ", without a version", STATE, () -> publish(x, of, "m" + of));
            fails("q" + model + ", without a version", STATE, () -> publish(x, of, "q" + of));
        }
        for (int model = 0; model < 6; model++) {
            publish(x, model, "p");
        }
        for (int model = 0; model < 6; model++) {
            int of = model;
            fails("m" + model, STATE, () -> publish(x, of, "m" + of));
            fails("q" + model, STATE, () -> publish(x, of, "1+0*q" + of));
            same("latest of " + model, x.latest(model), model);
        }
        same("p is not the name of a model", publish(x, 0, "p+1"), 6);
    }

    private static void namesNone() {
        sentence("IllegalStateException if it names one that has no latest version");
        for (int model = 0; model < 6; model++) {
            for (int other = 0; other < 6; other++) {
                if (other != model) {
                    FlumeRegistry x = new FlumeRegistry();
                    int of = model;
                    int named = other;
                    fails("m" + other, STATE, () -> publish(x, of, "m" + named));
                    fails("q" + other, STATE, () -> publish(x, of, "i(1,1,q" + named + ")"));
                    same("latest", x.latest(model), NONE);
                    same("the first one", publish(x, other, "1"), 0);
                    same("then it may", publish(x, model, "m" + other), 1);
                }
            }
        }
        FlumeRegistry x = new FlumeRegistry();
        publish(x, 0, "1");
        fails("one of two has none", STATE, () -> publish(x, 2, "m0+m1"));
        fails("one of two has none", STATE, () -> publish(x, 2, "m1+m0"));
        x.retire(0);
        fails("one that was retired", STATE, () -> publish(x, 2, "m0"));
    }

    private static void ringsAtEachLength() {
        sentence("IllegalStateException if it names one that rests on this model");
        for (int turn = 0; turn < 2; turn++) {
            int step = turn == 0 ? 1 : 5;
            int first = turn == 0 ? 0 : 5;
            FlumeRegistry x = new FlumeRegistry();
            publish(x, first, "1");
            for (int place = 1; place < 6; place++) {
                int below = (first + step * (place - 1)) % 6;
                publish(x, (first + step * place) % 6, (place % 2 == 0 ? "m" : "q") + below);
            }
            for (int lower = 0; lower < 6; lower++) {
                for (int upper = lower + 1; upper < 6; upper++) {
                    int of = (first + step * lower) % 6;
                    int named = (first + step * upper) % 6;
                    fails("model " + of + " names " + named, STATE, () -> publish(x, of, "m" + named));
                    fails("model " + of + " names " + named + " before", STATE, () -> publish(x, of, "q" + named));
                    if (lower > 0) {
                        int good = (first + step * (lower - 1)) % 6;
                        fails("beside one that is good", STATE, () -> publish(x, of, "m" + good + "+m" + named));
                    }
                }
            }
            for (int place = 0; place < 6; place++) {
                same("nothing has changed", x.latest((first + step * place) % 6), place);
            }
            same("the topmost one may name all", publish(x, (first + step * 5) % 6, turn == 0 ? "m0+m1+m2+m3+m4" : "m1+m2+m3+m4+m5"), 6);
        }
    }

    private static void ringsByTheLatestTextsOnly() {
        sentence("A model rests on those that the text of its latest version names, and on those on which these rest");
        FlumeRegistry x = new FlumeRegistry();
        publish(x, 0, "1");
        publish(x, 1, "m0");
        publish(x, 2, "m1");
        fails("0 names 2", STATE, () -> publish(x, 0, "m2"));
        publish(x, 1, "5");
        same("an old text doesn't count", publish(x, 0, "m2"), 5);
        same("2 was bound anew before", x.pin(5, 2), 4);
        fails("1 names 0", STATE, () -> publish(x, 1, "m0"));
        x.retire(0);
        same("2 may be named by 0 no more", publish(x, 0, "6"), 6);
        same("1 may name 0 again", publish(x, 1, "m0"), 7);
        sentence("a model that was retired rests on none");
        FlumeRegistry y = new FlumeRegistry();
        publish(y, 0, "1");
        publish(y, 1, "m0");
        y.retire(1);
        same("0 was named by one that was retired", y.retire(0), 0);
        publish(y, 1, "2");
        same("0 may name 1 now", publish(y, 0, "m1"), 3);
    }

    private static void retired() {
        sentence("retire: IllegalStateException if it has no latest version, or another model rests on it");
        for (int model = 0; model < 6; model++) {
            for (int other = 0; other < 6; other++) {
                if (other != model) {
                    int of = model;
                    FlumeRegistry x = new FlumeRegistry();
                    fails("none yet", STATE, () -> x.retire(of));
                    publish(x, model, "1");
                    publish(x, other, (model + other) % 2 == 0 ? "m" + model : "q" + model);
                    fails(other + " rests on it", STATE, () -> x.retire(of));
                    same("latest", x.latest(model), 0);
                    same("the other one", x.retire(other), 1);
                    same("latest of the other one", x.latest(other), NONE);
                    same("none rests on it", x.retire(model), 0);
                    same("latest", x.latest(model), NONE);
                    fails("again", STATE, () -> x.retire(of));
                }
            }
        }
    }

    private static void retiredBelow() {
        sentence("another model rests on it: by one between them too");
        FlumeRegistry x = new FlumeRegistry();
        publish(x, 3, "1");
        publish(x, 1, "m3");
        publish(x, 4, "m1");
        fails("the lowest of three", STATE, () -> x.retire(3));
        fails("the middle of three", STATE, () -> x.retire(1));
        publish(x, 4, "2");
        same("the middle, with none on it", x.retire(1), 1);
        same("the lowest, with none on it", x.retire(3), 0);
    }

    private static void retiredThenNew() {
        sentence("a model that was retired has none until it gets a new one");
        FlumeRegistry x = new FlumeRegistry();
        publish(x, 2, "4");
        x.retire(2);
        same("latest", x.latest(2), NONE);
        fails("run", STATE, () -> x.run(2, 1));
        bits("the version is still there", x.out(0, 9), 4f);
        bits("and found anew", x.outAnew(0, 9), 4f);
        publish(x, 1, "1");
        same("still none", x.latest(2), NONE);
        same("a new one", publish(x, 2, "5"), 2);
        same("latest", x.latest(2), 2);
        same("retired again", x.retire(2), 2);
        same("latest", x.latest(2), NONE);
        same("the same text again", x.publish(2), 3);
        bits("out", x.out(3, 0), 5f);
    }

    private static void latestOne() {
        sentence("The latest version of a model is the one that came last");
        FlumeRegistry x = new FlumeRegistry();
        for (int number = 0; number < 12; number++) {
            int of = number * 5 % 6;
            same("latest before", x.latest(of), number < 6 ? NONE : number - 6);
            same("publish", write(x, "g1").publish(of), number);
            same("latest", x.latest(of), number);
        }
    }

    private static void noneIsBoundAnew() {
        sentence("as long as there are models whose latest version pins one that is not the latest of its model");
        FlumeRegistry x = new FlumeRegistry();
        publish(x, 0, "1");
        publish(x, 1, "m0");
        publish(x, 2, "m1");
        publish(x, 3, "g0");
        same("on top", publish(x, 2, "m1+1"), 4);
        same("the next, none was bound anew", publish(x, 3, "g0"), 5);
        same("latest of 0", x.latest(0), 0);
        same("latest of 1", x.latest(1), 1);
        publish(x, 1, "7");
        same("2 was bound anew", x.latest(2), 7);
        same("1 names 0 no more", publish(x, 0, "2"), 8);
        same("latest of 1", x.latest(1), 6);
        same("latest of 2", x.latest(2), 7);
    }

    private static void allAreBoundAnew() {
        sentence("Then, again and again");
        FlumeRegistry x = new FlumeRegistry();
        publish(x, 0, "g0");
        for (int model = 1; model < 6; model++) {
            publish(x, model, "m" + (model - 1) + "+1");
        }
        x.rain(0, 0, 20);
        same("publish", publish(x, 0, "g0*2"), 6);
        for (int model = 1; model < 6; model++) {
            same("latest of " + model, x.latest(model), 6 + model);
            same("pin", x.pin(6 + model, model - 1), 5 + model);
            bits("out", x.out(6 + model, 0), 40f + model);
            bits("out of the old one", x.out(model, 0), 20f + model);
        }
        FlumeRegistry y = new FlumeRegistry();
        publish(y, 5, "1");
        for (int model = 4; model >= 0; model--) {
            publish(y, model, "m" + (model + 1));
        }
        same("publish of 5", publish(y, 5, "2"), 6);
        for (int model = 4; model >= 0; model--) {
            same("latest of " + model, y.latest(model), 11 - model);
        }
        same("publish in the middle", publish(y, 2, "3"), 12);
        same("latest of 1", y.latest(1), 13);
        same("latest of 0", y.latest(0), 14);
        same("latest of 3", y.latest(3), 8);
    }

    private static void boundByRisingModels() {
        sentence("of these models the lowest one that rests on no other one of them gets a new version");
        FlumeRegistry x = new FlumeRegistry();
        publish(x, 3, "1");
        for (int model : new int[] {5, 1, 4, 0, 2}) {
            publish(x, model, "m3");
        }
        publish(x, 3, "2");
        same("latest of 0", x.latest(0), 7);
        same("latest of 1", x.latest(1), 8);
        same("latest of 2", x.latest(2), 9);
        same("latest of 4", x.latest(4), 10);
        same("latest of 5", x.latest(5), 11);
        publish(x, 0, "m3+m5");
        publish(x, 1, "m4");
        same("publish", publish(x, 3, "3"), 14);
        // At first 0, 2, 4 and 5 pin an old one; 0 rests on 5, and 1 follows once 4 is new.
        same("latest of 2", x.latest(2), 15);
        same("latest of 4", x.latest(4), 16);
        same("latest of 1", x.latest(1), 17);
        same("latest of 5", x.latest(5), 18);
        same("latest of 0", x.latest(0), 19);
    }

    private static void boundBehindThoseBetween() {
        sentence("rests on no other one of them: by one between, that pins no old one yet, too");
        FlumeRegistry x = new FlumeRegistry();
        publish(x, 5, "1");
        publish(x, 2, "m5");
        publish(x, 1, "m2");
        publish(x, 0, "m1+m5");
        same("publish", publish(x, 5, "2"), 4);
        same("latest of 2", x.latest(2), 5);
        same("latest of 1", x.latest(1), 6);
        same("latest of 0", x.latest(0), 7);
        same("pin of 0", x.pin(7, 1), 6);
        same("pin of 0", x.pin(7, 5), 4);
        bits("out", x.out(7, 0), 4f);
        same("no more of them", publish(x, 3, "1"), 8);
        FlumeRegistry y = new FlumeRegistry();
        publish(y, 5, "1");
        publish(y, 4, "m5");
        publish(y, 3, "q4");
        publish(y, 2, "m3");
        publish(y, 0, "m2+q5");
        publish(y, 1, "m5+0");
        same("publish", publish(y, 5, "2"), 6);
        int[] due = {11, 7, 10, 9, 8};
        for (int model = 0; model < due.length; model++) {
            same("latest of " + model, y.latest(model), due[model]);
        }
    }

    private static void boundOnce() {
        sentence("gets a new version which pins those that are the latest then");
        FlumeRegistry x = new FlumeRegistry();
        publish(x, 0, "1");
        publish(x, 1, "m0");
        publish(x, 2, "m0+m1");
        publish(x, 3, "m0+m1+m2");
        publish(x, 4, "m0+m1+m2+m3");
        publish(x, 5, "m0+m1+m2+m3+m4");
        same("publish", publish(x, 0, "2"), 6);
        for (int model = 1; model < 6; model++) {
            same("latest of " + model, x.latest(model), 6 + model);
            for (int other = 0; other < 6; other++) {
                same("pin", x.pin(6 + model, other), other < model ? 6 + other : NONE);
            }
        }
        bits("out", x.out(11, 0), 32f);
        bits("out of the old one", x.out(5, 0), 16f);
    }

    private static void boundWithTheSameText() {
        sentence("gets a new version, with the same text");
        FlumeRegistry x = new FlumeRegistry();
        publish(x, 0, "g0");
        publish(x, 1, "i(g1,m0*10,q0*3+p)-2.25/h");
        write(x, "g0*2");
        x.rain(0, 2, 4);
        x.rain(0, 3, 5);
        x.rain(1, 2, 1);
        same("publish", x.publish(0), 2);
        bits("the hour 2", x.out(3, 2), 80f - 2.25f / 2f);
        bits("the hour 3", x.out(3, 3), 24f + (80f - 2.25f / 2f) - 2.25f / 3f);
        same("publish: the text stays", x.wipe(), 4);
        same("the text that was typed since has no part in it", publish(x, 0, "g0*3"), 4);
        bits("the hour 2", x.out(5, 2), 120f - 2.25f / 2f);
    }

    private static void boundByTheHourBefore() {
        sentence("q and a figure, its output in the hour before, is a name of the model too");
        FlumeRegistry x = new FlumeRegistry();
        publish(x, 0, "1");
        publish(x, 1, "q0");
        same("publish", publish(x, 0, "2"), 2);
        same("latest of 1", x.latest(1), 3);
        same("pin", x.pin(3, 0), 2);
        bits("the hour before is that of the new one", x.out(3, 1), 2f);
        bits("of the old one that of the old one", x.out(1, 1), 1f);
    }

    private static void oldPinsStay() {
        sentence("The output of a version in an hour is what its text gives, with the outputs of the versions that it pins");
        FlumeRegistry x = new FlumeRegistry();
        publish(x, 0, "g0");
        publish(x, 1, "m0*2");
        publish(x, 2, "m1+q1");
        x.rain(0, 5, 3);
        publish(x, 0, "g0*100");
        x.retire(2);
        x.retire(1);
        x.retire(0);
        bits("of the old one", x.out(2, 5), 6f);
        bits("of the old one", x.out(2, 6), 6f);
        bits("of the new one", x.out(5, 5), 600f);
        x.rain(0, 5, 4);
        bits("of the old one, with another rain", x.out(2, 5), 8f);
        bits("of the new one, with another rain", x.out(5, 6), 800f);
        same("found anew", x.outAnew(5, 6), x.out(5, 6));
        same("pin", x.pin(2, 1), 1);
    }

    private static void noRainsAtFirst() {
        sentence("FlumeRegistry(): Creates a registry without versions, dams and rains; the text is empty");
        for (int gauge = 0; gauge < 3; gauge++) {
            FlumeRegistry x = new FlumeRegistry();
            for (int hour = 0; hour <= 200; hour++) {
                same("the rain of " + gauge + " in " + hour, x.rain(gauge, hour, 500), 0);
            }
            for (int hour = 0; hour <= 200; hour++) {
                same("what was told of " + gauge + " in " + hour, x.rain(gauge, hour, 0), 500);
            }
            FlumeRegistry other = new FlumeRegistry();
            for (int hour = 0; hour <= 200; hour++) {
                same("the rain of another object", other.rain(gauge, hour, 0), 0);
            }
        }
        FlumeRegistry x = new FlumeRegistry();
        same("the text, as a model's text", x.fault(false), 0);
        same("the text, as a rule", x.fault(true), 0);
        same("its letters", x.wipe(), 0);
        fails("a version", INDEX, () -> x.out(0, 0));
        fails("a run", INDEX, () -> x.why(0));
        fails("a siren", INDEX, () -> x.siren(0));
        for (int dam = 0; dam < 3; dam++) {
            int at = dam;
            fails("a valley below a dam that is not built", STATE, () -> x.valley(at, 0, 1, 0));
            x.build(dam, dam, 1);
        }
        for (int model = 0; model < 6; model++) {
            same("a latest version", x.latest(model), NONE);
        }
    }

    private static void rainsAtTheEdges() {
        sentence("rain: gauge: 0 to 2; hour: 0 to 200; millimetres: 0 to 500; 0 at first");
        FlumeRegistry x = new FlumeRegistry();
        for (int gauge = 0; gauge < 3; gauge++) {
            for (int hour : new int[] {0, 1, 199, 200}) {
                int of = gauge;
                same("at first", x.rain(gauge, hour, 500), 0);
                same("the most", x.rain(gauge, hour, 0), 500);
                same("the least", x.rain(gauge, hour, gauge + 1), 0);
                fails("millimetres 501", ARGUMENT, () -> x.rain(of, hour, 501));
                fails("millimetres -1", ARGUMENT, () -> x.rain(of, hour, -1));
                same("nothing has changed", x.rain(gauge, hour, gauge + 1), gauge + 1);
            }
        }
        FlumeRegistry y = new FlumeRegistry();
        publish(y, 0, "g0-g1+g2/2");
        for (int hour = 0; hour <= 200; hour += 40) {
            y.rain(0, hour, 500);
            y.rain(1, hour, hour);
            y.rain(2, hour, 3);
            bits("all three", y.out(0, hour), 501.5f - hour);
        }
    }

    private static void outsAtTheEdges() {
        sentence("out: version: the latest one or not; hour: 0 to 200");
        FlumeRegistry x = new FlumeRegistry();
        publish(x, 0, "h+1");
        publish(x, 0, "h+2");
        x.retire(0);
        for (int hour : new int[] {0, 1, 199, 200}) {
            for (int version = 0; version < 2; version++) {
                bits("out", x.out(version, hour), hour + version + 1);
                bits("outAnew", x.outAnew(version, hour), hour + version + 1);
            }
        }
        x.pass(24);
        bits("an hour that has passed", x.out(1, 3), 5f);
        bits("an hour to come", x.out(1, 30), 32f);
    }

    private static void keptOutputs() {
        sentence("out: by what is kept: another rain is heard of by all that rest on it, from its hour on");
        FlumeRegistry x = new FlumeRegistry();
        publish(x, 0, "p+g0");
        publish(x, 1, "q0");
        publish(x, 2, "m1+g1");
        publish(x, 3, "p+m2");
        for (int version = 0; version < 4; version++) {
            bits("before", x.out(version, 200), 0f);
        }
        x.rain(0, 0, 1);
        bits("the hour 0", x.out(0, 0), 1f);
        bits("the hour before", x.out(1, 1), 1f);
        bits("the hour 200", x.out(3, 200), 200f);
        x.rain(0, 200, 5);
        bits("the hour 200", x.out(0, 200), 6f);
        bits("the hour before", x.out(1, 200), 1f);
        x.rain(0, 199, 5);
        bits("the hour before", x.out(1, 200), 6f);
        bits("the hour before that", x.out(1, 199), 1f);
        bits("on top", x.out(3, 200), 205f);
        x.rain(1, 0, 7);
        bits("on top", x.out(3, 0), 7f);
        bits("on top", x.out(3, 200), 212f);
        bits("another gauge", x.out(0, 200), 11f);
        x.rain(0, 0, 0);
        bits("told back", x.out(0, 198), 0f);
        bits("told back", x.out(3, 199), 7f);
        bits("told back", x.out(3, 200), 12f);
    }

    private static void foundAnew() {
        sentence("outAnew: Returns the same, found anew from the hour 0 on, for this version and all that it rests on");
        FlumeRegistry x = new FlumeRegistry();
        publish(x, 0, "p/3+g0");
        publish(x, 1, "q0*1.1+p/7");
        publish(x, 2, "m1-q0*p/9");
        for (int time = 0; time < 20; time++) {
            x.rain(0, time * 10, time * 13 % 50);
            for (int hour : new int[] {200 - time * 10, time * 10}) {
                for (int version = 2; version >= 0; version--) {
                    int kept = x.out(version, hour);
                    same("outAnew behind out", x.outAnew(version, hour), kept);
                    same("out behind outAnew", x.out(version, hour), kept);
                }
            }
        }
    }
}
