import java.io.IOException;
import java.nio.file.Files;
import java.nio.file.Path;
import java.util.ArrayList;
import java.util.List;
import java.util.regex.Matcher;
import java.util.regex.Pattern;

/** The document's terms of versions, runs, dams and valleys, its constants and headings, sentence by sentence. */
public final class ReadingTerms extends Reading {
    public static void main(String[] args) throws IOException {
        beginAt("Versions are numbered from 0");
        versions();
        resting();
        bindingAnew();
        outputs();
        runs();
        reasons();
        dams();
        askedAtDams();
        waterAtDams();
        valleys();
        sirens();
        withdrawn();
        right();
        wrong();
        constants();
        headings();
        endAt("`FlumeRegistry()`");
        end("the terms hold, sentence by sentence");
    }

    private static void versions() {
        says("Versions are numbered from 0, up to 60 in all.");
        part("Versions are numbered from 0");
        FlumeRegistry x = new FlumeRegistry();
        fails("none yet", INDEX, () -> x.out(0, 0));
        same("the first one", publish(x, 4, "4"), 0);
        same("the second one", publish(x, 2, "2"), 1);
        same("the third one", publish(x, 4, "5"), 2);
        bits("the first one's output", x.out(0, 0), 4f);
        part("up to 60 in all");
        for (int number = 3; number < 60; number++) {
            same("the version", x.publish(1), number);
        }
        fails("one more", STATE, () -> x.publish(1));
        fails("one more of another model", STATE, () -> x.publish(3));
        fails("the version 60", INDEX, () -> x.out(60, 0));
        bits("the version 59", x.out(59, 0), 5f);
        says("A version is of a model, has a text, and pins, for each other model that its text names, the version of that which is the latest then.");
        part("A version is of a model");
        FlumeRegistry y = new FlumeRegistry();
        int version = publish(y, 3, "g0");
        same("the latest of its model", y.latest(3), version);
        same("the latest of another", y.latest(2), NONE);
        part("has a text");
        y.wipe();
        y.rain(0, 9, 99);
        bits("what its text gives", y.out(version, 9), 99f);
        part("pins, for each other model that its text names, the version of that which is the latest then");
        publish(y, 1, "1");
        publish(y, 1, "2");
        version = publish(y, 0, "m1+q3");
        same("a pin", y.pin(version, 1), 2);
        same("a pin by q", y.pin(version, 3), 0);
        same("one of its own model", y.pin(version, 0), NONE);
        same("one that it does not name", y.pin(version, 2), NONE);
        publish(y, 1, "3");
        same("the pin as it was", y.pin(version, 1), 2);
        bits("the output as it was", y.out(version, 0), 2f);
        says("The latest version of a model is the one that came last; a model that was retired has none until it gets a new one.");
        part("The latest version of a model is the one that came last");
        FlumeRegistry z = new FlumeRegistry();
        for (int number = 0; number < 5; number++) {
            publish(z, 5, "1");
            same("the latest", z.latest(5), number);
        }
        part("a model that was retired has none until it gets a new one");
        z.retire(5);
        same("the latest of a retired one", z.latest(5), NONE);
        fails("to name a retired one", STATE, () -> publish(z, 0, "m5"));
        fails("to retire it again", STATE, () -> z.retire(5));
        same("a new one", publish(z, 5, "1"), 5);
        same("the latest then", z.latest(5), 5);
    }

    private static void resting() {
        says("A model rests on those that the text of its latest version names, and on those on which these rest.");
        part("A model rests on those that the text of its latest version names");
        FlumeRegistry x = new FlumeRegistry();
        publish(x, 0, "1");
        publish(x, 1, "m0");
        fails("to name one that rests on it", STATE, () -> publish(x, 0, "m1"));
        fails("to retire one on which another rests", STATE, () -> x.retire(0));
        same("a text that names it no more", publish(x, 1, "2"), 2);
        same("to name one that rested on it", publish(x, 0, "q1"), 3);
        part("on those on which these rest");
        FlumeRegistry y = new FlumeRegistry();
        publish(y, 0, "1");
        publish(y, 3, "q0");
        publish(y, 2, "m3");
        publish(y, 5, "m2");
        fails("to name one that rests on it by two", STATE, () -> publish(y, 0, "m5"));
        fails("to retire one on which another rests by one", STATE, () -> y.retire(3));
        fails("to name one that rests on it by one", STATE, () -> publish(y, 3, "q5"));
        same("a text that names it no more", publish(y, 3, "1"), 4);
        same("those above are bound anew", y.latest(5), 6);
        same("to name one that rested on it by two", publish(y, 0, "m5"), 7);
    }

    private static void bindingAnew() {
        says("When a version is published, the one that was the latest of its model before is so no more.");
        FlumeRegistry x = new FlumeRegistry();
        publish(x, 0, "1");
        x.run(0, 1);
        publish(x, 0, "1");
        same("the latest", x.latest(0), 1);
        same("a run of the one before", x.why(0), MENDED);
        says("Then, again and again, as long as there are models whose latest version pins one that is not the latest of its model: of these models "
            + "the lowest one that rests on no other one of them gets a new version, with the same text, which pins those that are the latest then.");
        part("Then, again and again, as long as there are models whose latest version pins one that is not the latest of its model");
        FlumeRegistry y = new FlumeRegistry();
        publish(y, 5, "1");
        publish(y, 4, "m5*2");
        publish(y, 3, "q4*3");
        publish(y, 2, "m3*5");
        publish(y, 1, "h");
        same("the version", publish(y, 5, "7"), 5);
        same("what rests on it", y.latest(4), 6);
        same("what rests on that", y.latest(3), 7);
        same("and on that", y.latest(2), 8);
        same("what does not rest on it", y.latest(1), 4);
        same("the next version", publish(y, 1, "1"), 9);
        same("what has nothing above it binds nothing", y.latest(2), 8);
        part("of these models the lowest one that rests on no other one of them gets a new version");
        FlumeRegistry z = new FlumeRegistry();
        publish(z, 5, "1");
        publish(z, 1, "m5");
        publish(z, 0, "m1+m5");
        publish(z, 3, "m5");
        publish(z, 2, "m5");
        same("the version", publish(z, 5, "2"), 5);
        same("the lowest that rests on no other of them", z.latest(1), 6);
        same("then it is 0, which rested on 1", z.latest(0), 7);
        same("then 2", z.latest(2), 8);
        same("then 3", z.latest(3), 9);
        FlumeRegistry w = new FlumeRegistry();
        publish(w, 5, "1");
        publish(w, 4, "m5");
        publish(w, 3, "m4");
        publish(w, 0, "m3+m5");
        publish(w, 5, "2");
        same("0 rests on 4 by 3, which pins no old one at first", w.latest(4), 5);
        same("so it is 3 then", w.latest(3), 6);
        same("and 0 at last, once", w.latest(0), 7);
        part("with the same text");
        bits("the text of 4", y.out(6, 1), 14f);
        bits("the text of 3", y.out(7, 1), 42f);
        bits("the text of 2", y.out(8, 1), 210f);
        part("which pins those that are the latest then");
        same("a pin", y.pin(6, 5), 5);
        same("a pin", y.pin(7, 4), 6);
        same("a pin", y.pin(8, 3), 7);
        same("both pins", z.pin(7, 1), 6);
        same("both pins", z.pin(7, 5), 5);
        same("both pins", w.pin(7, 3), 6);
        same("both pins", w.pin(7, 5), 4);
        same("the old pin", y.pin(1, 5), 0);
    }

    private static void outputs() {
        says("The output of a version in an hour is what its text gives, with the outputs of the versions that it pins.");
        FlumeRegistry x = new FlumeRegistry();
        publish(x, 0, "g0");
        publish(x, 1, "m0*2+p");
        publish(x, 2, "m1+q1");
        x.rain(0, 1, 5);
        publish(x, 0, "g0*10");
        bits("the old one", x.out(2, 2), 20f);
        bits("the new one", x.out(5, 2), 200f);
        x.rain(0, 1, 6);
        bits("the old one with another rain", x.out(2, 2), 24f);
        bits("the new one with another rain", x.out(5, 2), 240f);
        x.rain(0, 2, 1);
        bits("the old one, and a rain of the hour", x.out(2, 2), 12f + 2f + 12f);
        bits("the old one, the hour before", x.out(2, 1), 12f);
    }

    private static void runs() {
        says("Runs are numbered from 0, up to 40.");
        part("Runs are numbered from 0");
        FlumeRegistry x = new FlumeRegistry();
        publish(x, 0, "h");
        publish(x, 1, "9");
        fails("none yet", INDEX, () -> x.why(0));
        same("the first one", x.run(0, 1), 0);
        same("the second one", x.run(1, 1), 1);
        part("up to 40");
        for (int number = 2; number < 40; number++) {
            same("the run", x.run(0, 2), number);
        }
        fails("one more", STATE, () -> x.run(0, 1));
        fails("the run 40", INDEX, () -> x.peak(40));
        bits("the run 39", x.peak(39), 2f);
        says("A run is of a version, from the hour in which it is made to a later one, both counted; its peak is the greatest output of the version "
            + "in these hours, with the rains as they are told when it is made.");
        part("A run is of a version");
        publish(x, 0, "7");
        bits("the peak of the version before", x.peakAnew(39), 2f);
        same("it is that one's", x.why(39), MENDED);
        same("another model's", x.why(1), STANDS);
        part("from the hour in which it is made to a later one, both counted");
        FlumeRegistry y = new FlumeRegistry();
        publish(y, 0, "g0");
        publish(y, 1, "i(h,0-h,3)");
        y.rain(0, 1, 90);
        y.rain(0, 2, 20);
        y.rain(0, 6, 30);
        y.rain(0, 7, 80);
        y.pass(2);
        same("a run of one hour", y.run(0, 1), 0);
        bits("its first hour is counted, and none before", y.peak(0), 20f);
        y.run(0, 4);
        bits("its last hour is counted, and none behind", y.peak(1), 30f);
        part("its peak is the greatest output of the version in these hours");
        y.run(0, 3);
        bits("the greatest is the first", y.peak(2), 20f);
        y.run(1, 5);
        bits("the greatest of those below 0", y.peak(3), -2f);
        part("with the rains as they are told when it is made");
        y.rain(0, 3, 50);
        bits("the peak", y.peak(1), 30f);
        y.run(0, 4);
        bits("that of the next run", y.peak(4), 50f);
    }

    private static void reasons() {
        says("It stands, unless there is a reason against it, the first one of these: MENDED, its version is not the latest of its model any more; "
            + "RAINED, a rain in its last hour or an earlier one has been told as another one since, perhaps told back later, of a gauge that is named by "
            + "the text of its version, or by one of those that it pins, and so on.");
        part("It stands, unless there is a reason against it, the first one of these");
        FlumeRegistry x = new FlumeRegistry();
        publish(x, 0, "g0");
        x.run(0, 3);
        same("at first", x.why(0), STANDS);
        x.pass(9);
        same("when its hours have passed", x.why(0), STANDS);
        x.rain(0, 1, 1);
        same("behind a rain", x.why(0), RAINED);
        publish(x, 0, "g0");
        same("behind both", x.why(0), MENDED);
        part("MENDED, its version is not the latest of its model any more");
        x.run(0, 3);
        x.retire(0);
        same("when the model was retired", x.why(1), MENDED);
        publish(x, 0, "g0");
        same("when it has a new one", x.why(1), MENDED);
        publish(x, 1, "m0");
        x.run(1, 3);
        publish(x, 2, "1");
        same("when another model is published", x.why(2), STANDS);
        publish(x, 0, "g0");
        same("when it is bound anew", x.why(2), MENDED);
        part("RAINED, a rain in its last hour or an earlier one has been told as another one since");
        FlumeRegistry y = new FlumeRegistry();
        publish(y, 0, "g0");
        y.pass(3);
        y.rain(0, 5, 7);
        y.run(0, 4);
        y.rain(0, 5, 7);
        same("a rain told as it was", y.why(0), STANDS);
        y.rain(0, 8, 1);
        same("a rain behind its last hour", y.why(0), STANDS);
        y.rain(0, 7, 1);
        same("a rain in its last hour", y.why(0), RAINED);
        y.run(0, 4);
        y.rain(0, 0, 1);
        same("a rain in front of its first hour", y.why(1), RAINED);
        y.run(0, 4);
        same("a rain that was told before it was made", y.why(2), STANDS);
        part("perhaps told back later");
        y.rain(0, 0, 0);
        same("a rain told and not yet told back", y.why(2), RAINED);
        y.rain(0, 0, 1);
        same("a rain told back", y.why(2), RAINED);
        part("of a gauge that is named by the text of its version");
        FlumeRegistry z = new FlumeRegistry();
        publish(z, 0, "0*g1");
        publish(z, 1, "q0");
        publish(z, 2, "m1+g2");
        for (int model = 0; model < 3; model++) {
            z.run(model, 3);
        }
        z.rain(0, 0, 1);
        for (int run = 0; run < 3; run++) {
            same("a gauge that none names", z.why(run), STANDS);
        }
        z.rain(2, 0, 1);
        same("the gauge of another text", z.why(0), STANDS);
        same("the gauge of another text", z.why(1), STANDS);
        same("the gauge of its text", z.why(2), RAINED);
        z.run(2, 3);
        part("by one of those that it pins");
        z.rain(1, 0, 1);
        same("the gauge of its text", z.why(0), RAINED);
        same("the gauge of one that it pins", z.why(1), RAINED);
        part("and so on");
        same("the gauge of one that one pins that it pins", z.why(3), RAINED);
    }

    private static FlumeRegistry dam(String text, int capacity) {
        FlumeRegistry x = new FlumeRegistry();
        publish(x, 0, text);
        x.build(0, 0, capacity);
        return x;
    }

    private static void dams() {
        says("A dam is built for a model, and has a capacity and a level, 0f at first.");
        part("A dam is built for a model");
        FlumeRegistry x = new FlumeRegistry();
        publish(x, 3, "3");
        publish(x, 4, "4");
        x.build(1, 4, 6);
        x.build(2, 3, 100);
        x.pass(1);
        bits("the level by one model", x.level(1), 4f);
        bits("the level by another", x.level(2), 3f);
        part("has a capacity");
        x.pass(1);
        bits("what is kept at most", x.level(1), 6f);
        bits("what is kept", x.level(2), 6f);
        bits("what was too much", x.below(1, 1), 2f);
        bits("what was too much", x.below(2, 1), 0f);
        part("a level, 0f at first");
        x.build(0, 4, 100);
        bits("the level", x.level(0), 0f);
        x.pass(1);
        bits("the level an hour later", x.level(0), 4f);
        says("It may have a rule, and a run that it goes by.");
        part("It may have a rule");
        rule(x, 2, "r+1");
        x.pass(1);
        bits("below it", x.below(2, 3), 1f);
        bits("below one without", x.below(0, 3), 0f);
        part("a run that it goes by");
        x.run(3, 5);
        x.pass(1);
        bits("below it, when it goes by none", x.below(2, 4), 1f);
        x.goBy(2, 0);
        x.pass(1);
        bits("below it, when it goes by one", x.below(2, 5), 4f);
    }

    private static void askedAtDams() {
        says("When an hour passes, for each dam that is built: its inflow is the output of the latest version of its model in that hour, but 0f if that is "
            + "below 0, or there is none; asked is what its rule gives, by the level, the inflow, the hour, and the peak of the run that it goes by, or 0f "
            + "if that does not stand, or there is none; without a rule 0f is asked.");
        part("When an hour passes, for each dam that is built");
        FlumeRegistry x = new FlumeRegistry();
        publish(x, 0, "5");
        x.build(0, 0, 100);
        x.build(2, 0, 100);
        x.pass(3);
        bits("the first one", x.level(0), 15f);
        bits("the last one", x.level(2), 15f);
        bits("one that is not built", x.level(1), 0f);
        x.build(1, 0, 100);
        bits("one that is built now", x.level(1), 0f);
        part("its inflow is the output of the latest version of its model in that hour");
        publish(x, 0, "h*10");
        x.pass(1);
        bits("the hour 3", x.level(1), 30f);
        publish(x, 0, "g0");
        x.rain(0, 4, 7);
        x.pass(1);
        bits("the next version", x.level(1), 37f);
        x.rain(0, 4, 9);
        bits("a rain that was told too late", x.level(1), 37f);
        part("0f if that is below 0");
        publish(x, 0, "0-5");
        x.pass(1);
        bits("the level", x.level(1), 37f);
        part("there is none");
        x.retire(0);
        x.pass(1);
        bits("the level", x.level(1), 37f);
        publish(x, 0, "2");
        part("asked is what its rule gives, by the level");
        rule(x, 1, "l/2");
        x.pass(1);
        bits("below", x.below(1, 7), 37f / 2f);
        float level = 37f + 2f - 37f / 2f;
        bits("the level", x.level(1), level);
        part("the inflow");
        rule(x, 1, "f*3");
        x.pass(1);
        bits("below", x.below(1, 8), 6f);
        publish(x, 0, "0-4");
        x.pass(1);
        bits("an output below 0", x.below(1, 9), 0f);
        part("the hour");
        rule(x, 1, "h/4");
        x.pass(2);
        bits("below", x.below(1, 10), 10f / 4f);
        bits("below", x.below(1, 11), 11f / 4f);
        part("the peak of the run that it goes by");
        publish(x, 0, "i(h-13,6,g0)");
        rule(x, 1, "1+r/4");
        x.goBy(1, x.run(0, 8));
        x.pass(1);
        bits("below", x.below(1, 12), 1f + 6f / 4f);
        part("0f if that does not stand");
        x.rain(0, 200, 1);
        x.pass(1);
        bits("a rain far away", x.below(1, 13), 1f + 6f / 4f);
        x.rain(0, 0, 1);
        x.pass(1);
        bits("a rain", x.below(1, 14), 1f);
        x.goBy(1, x.run(0, 8));
        publish(x, 0, "g0");
        x.pass(1);
        bits("a mended model", x.below(1, 15), 1f);
        part("there is none");
        rule(x, 0, "1+r");
        x.pass(1);
        bits("a dam that goes by none", x.below(0, 16), 1f);
        part("without a rule 0f is asked");
        bits("below", x.below(2, 16), 0f);
        bits("below", x.below(2, 12), 0f);
    }

    private static void waterAtDams() {
        says("Then, one after the other: has is the level plus the inflow; flows is what is asked, but 0f if that is below 0, and has if it is above; left is "
            + "has less flows; spills is left less the capacity, but 0f if left is not above that; the level becomes left less spills; and flows plus spills is "
            + "below the dam in this hour.");
        part("Then, one after the other: has is the level plus the inflow");
        FlumeRegistry x = dam("10.1", 50);
        rule(x, 0, "999");
        x.pass(1);
        bits("all that it has", x.below(0, 0), 10.1f);
        rule(x, 0, "0");
        x.pass(1);
        rule(x, 0, "999");
        x.pass(1);
        bits("all that it has of two hours", x.below(0, 2), 10.1f + 10.1f);
        part("flows is what is asked");
        rule(x, 0, "3.3");
        x.pass(1);
        bits("below", x.below(0, 3), 3.3f);
        part("0f if that is below 0");
        rule(x, 0, "0-5");
        x.pass(1);
        bits("below", x.below(0, 4), 0f);
        bits("the level", x.level(0), 10.1f - 3.3f + 10.1f);
        part("has if it is above");
        float has = 10.1f - 3.3f + 10.1f + 10.1f;
        rule(x, 0, "l+f+0.01");
        x.pass(1);
        bits("below", x.below(0, 5), has);
        bits("the level", x.level(0), 0f);
        part("left is has less flows");
        rule(x, 0, "0.7");
        x.pass(1);
        float left = 10.1f - 0.7f;
        bits("the level", x.level(0), left);
        part("spills is left less the capacity");
        x.rain(0, 0, 1);
        publish(x, 0, "77.7");
        x.pass(1);
        left = left + 77.7f - 0.7f;
        float spills = left - 50f;
        bits("below", x.below(0, 7), 0.7f + spills);
        part("0f if left is not above that");
        FlumeRegistry y = dam("10", 20);
        y.pass(2);
        bits("below, when left is the capacity", y.below(0, 1), 0f);
        y.pass(1);
        bits("below, when left is above", y.below(0, 2), 10f);
        part("the level becomes left less spills");
        bits("the level", x.level(0), left - spills);
        bits("the level", y.level(0), 20f);
        FlumeRegistry z = dam("(999+1)*(999+1)*(999+1)", 33);
        z.pass(1);
        // The next lesser float than a billion is 64 less: so what is left is not the capacity.
        bits("the level of a flood", z.level(0), 1000000000f - (1000000000f - 33f));
        part("flows plus spills is below the dam in this hour");
        FlumeRegistry w = dam("10", 4);
        rule(w, 0, "3");
        w.pass(1);
        bits("below", w.below(0, 0), 3f + 3f);
        w.pass(1);
        bits("below", w.below(0, 1), 3f + 7f);
        bits("below, the hour before", w.below(0, 0), 6f);
    }

    /** A valley whose danger is 40, below a dam that lets through what rains at gauge 0. */
    private static FlumeRegistry valley(int people, int walking) {
        FlumeRegistry x = dam("g0", 100000);
        rule(x, 0, "l+f");
        x.valley(0, people, 40, walking);
        return x;
    }

    /** The same, with a siren that rests on a run to an hour with a rain of 40. */
    private static FlumeRegistry ringing(int people, int walking, int hours) {
        FlumeRegistry x = valley(people, walking);
        x.rain(0, hours, 40);
        x.sound(0, x.run(0, hours));
        return x;
    }

    private static void valleys() {
        says("Below a dam there may be a valley, with people, a danger, and hours of walking.");
        part("Below a dam there may be a valley, with people");
        FlumeRegistry none = dam("50", 1);
        none.run(0, 1);
        fails("a siren without a valley", STATE, () -> none.sound(0, 0));
        FlumeRegistry x = ringing(123, 2, 1);
        same("those who walk", x.walkers(0), 123);
        part("a danger");
        FlumeRegistry y = valley(10, 0);
        y.rain(0, 1, 39);
        y.run(0, 1);
        fails("a peak that is less", STATE, () -> y.sound(0, 0));
        same("the alarm", y.alarm(), 0);
        y.valley(0, 10, 39, 0);
        same("the alarm", y.alarm(), 1);
        same("a peak that is not less", y.sound(0, 0), 0);
        part("hours of walking");
        x.pass(2);
        same("the siren", x.siren(0), RIGHT);
        same("one hour is too short for two", x.saved(0), 0);
        y.pass(2);
        same("no hour is needed", y.saved(0), 10);
        says("It has a trust, 1f at first.");
        bits("the trust", valley(10, 0).trust(0), 1f);
        bits("the trust of another", y.trust(1), 1f);
        FlumeRegistry z = ringing(10, 0, 1);
        bits("the trust with a siren", z.trust(0), 1f);
        rule(z, 0, "0");
        z.pass(2);
        bits("the trust behind one that was wrong", z.trust(0), 0.75f);
        z.build(1, 0, 1);
        z.valley(1, 10, 1, 0);
        bits("the trust of the next valley", z.trust(1), 1f);
    }

    private static void sirens() {
        says("Sirens are numbered from 0, up to 60; a siren is of a dam, rests on a run, and RINGS at first; as many of the people walk as people, as a float, "
            + "times the trust, cast to an int.");
        part("Sirens are numbered from 0");
        FlumeRegistry x = valley(100, 0);
        x.build(1, 0, 1);
        x.valley(1, 100, 39, 0);
        x.rain(0, 0, 40);
        x.run(0, 1);
        fails("none yet", INDEX, () -> x.siren(0));
        same("the first one", x.sound(0, 0), 0);
        same("the second one", x.sound(1, 0), 1);
        part("up to 60");
        FlumeRegistry y = dam("10", 1);
        y.valley(0, 1, 9, 0);
        y.run(0, 1);
        for (int number = 0; number < 60; number++) {
            same("the siren", y.sound(0, 0), number);
            y.pass(1);
        }
        fails("one more", STATE, () -> y.sound(0, 0));
        fails("the siren 60", INDEX, () -> y.siren(60));
        part("a siren is of a dam");
        rule(x, 0, "0");
        x.pass(2);
        same("the siren of a dam that holds it back", x.siren(0), WRONG);
        same("the siren of one that spills", x.siren(1), RIGHT);
        part("rests on a run");
        FlumeRegistry z = valley(100, 0);
        z.rain(0, 3, 40);
        z.run(0, 3);
        z.run(0, 9);
        z.sound(0, 1);
        z.rain(0, 5, 1);
        z.pass(1);
        same("the siren, as its run does not stand", z.siren(0), WITHDRAWN);
        same("the siren on a run that does", z.sound(0, 0), 1);
        z.pass(1);
        same("the siren on a run that does", z.siren(1), RINGS);
        part("RINGS at first");
        same("the siren", ringing(1, 0, 5).siren(0), RINGS);
        part("as many of the people walk as people, as a float, times the trust, cast to an int");
        FlumeRegistry w = valley(999, 0);
        w.rain(0, 3, 40);
        w.run(0, 3);
        rule(w, 0, "0");
        w.sound(0, 0);
        same("all", w.walkers(0), 999);
        w.pass(4);
        w.sound(0, 0);
        same("by a trust of 0.75f", w.walkers(1), (int) (999f * 0.75f));
        w.pass(1);
        w.sound(0, 0);
        same("by a trust of 0.5625f", w.walkers(2), (int) (999f * 0.5625f));
    }

    private static void withdrawn() {
        says("When an hour has passed at all dams, each siren that RINGS, by rising numbers, is judged: if its run does not stand, it is WITHDRAWN, and the trust "
            + "becomes itself times 0.9f; otherwise, if what was below its dam in this hour is not less than the danger, it is RIGHT, lacks is 1f less the trust, "
            + "the trust becomes itself plus lacks times 0.5f, and those who walk are saved if as many hours as they need, or more, are between the hour in which "
            + "it was sounded and this one; otherwise, if this is the last hour of its run or a later one, it is WRONG, and the trust becomes itself times 0.75f.");
        part("When an hour has passed at all dams, each siren that RINGS");
        FlumeRegistry x = ringing(100, 0, 1);
        x.build(1, 0, 1);
        x.valley(1, 100, 39, 0);
        x.build(2, 0, 1);
        x.valley(2, 100, 38, 0);
        x.sound(2, 0);
        x.sound(1, 0);
        x.pass(1);
        for (int siren = 0; siren < 3; siren++) {
            same("the siren, when no hour with it has passed", x.siren(siren), RINGS);
        }
        x.pass(1);
        for (int siren = 0; siren < 3; siren++) {
            same("the siren of each dam, by what is below it in the same hour", x.siren(siren), RIGHT);
        }
        x.rain(0, 0, 9);
        x.pass(3);
        same("the siren, which RINGS no more", x.siren(0), RIGHT);
        bits("the trust then", x.trust(0), 1f);
        // A dam has one siren that RINGS at most: so the order of the sirens of an hour can't be seen.
        part("by rising numbers");
        same("saved by each of them", x.saved(0) + x.saved(1) + x.saved(2), 300);
        part("is judged: if its run does not stand, it is WITHDRAWN");
        FlumeRegistry y = ringing(100, 0, 3);
        y.rain(0, 0, 90);
        same("the siren, when no hour has passed", y.siren(0), RINGS);
        y.pass(1);
        same("the siren, though there was a flood", y.siren(0), WITHDRAWN);
        same("saved", y.saved(0), 0);
        FlumeRegistry z = ringing(100, 0, 1);
        z.pass(1);
        z.retire(0);
        z.pass(1);
        same("the siren, in the last hour of its run", z.siren(0), WITHDRAWN);
        part("the trust becomes itself times 0.9f");
        bits("the trust", y.trust(0), 1f * 0.9f);
        y.sound(0, y.run(0, 3));
        y.rain(0, 0, 80);
        y.pass(1);
        bits("the trust of two", y.trust(0), 1f * 0.9f * 0.9f);
    }

    private static void right() {
        part("if what was below its dam in this hour is not less than the danger, it is RIGHT");
        for (int rain = 39; rain <= 41; rain++) {
            FlumeRegistry x = valley(100, 0);
            x.rain(0, 1, rain);
            x.rain(0, 2, 45);
            x.sound(0, x.run(0, 9));
            x.pass(1);
            same("the siren, in an hour without rain", x.siren(0), RINGS);
            x.pass(1);
            same("the siren, by a rain of " + rain, x.siren(0), rain < 40 ? RINGS : RIGHT);
        }
        FlumeRegistry late = ringing(100, 0, 1);
        late.pass(2);
        same("the siren, in the last hour of its run", late.siren(0), RIGHT);
        part("lacks is 1f less the trust, the trust becomes itself plus lacks times 0.5f");
        FlumeRegistry x = valley(100, 0);
        x.rain(0, 0, 40);
        x.run(0, 1);
        x.sound(0, 0);
        x.pass(1);
        bits("the trust that lacks nothing", x.trust(0), 1f);
        float trust = 1f;
        for (int time = 0; time < 3; time++) {
            x.sound(0, 0);
            x.pass(1);
            trust = trust * 0.75f;
            bits("the trust behind one that was wrong", x.trust(0), trust);
        }
        for (int hour = 4; hour < 9; hour++) {
            x.rain(0, hour, 70);
        }
        x.run(0, 9);
        for (int time = 0; time < 4; time++) {
            x.sound(0, 1);
            x.pass(1);
            float lacks = 1f - trust;
            trust = trust + lacks * 0.5f;
            bits("the trust behind one that was right", x.trust(0), trust);
        }
        part("those who walk are saved if as many hours as they need, or more, are between the hour in which it was sounded and this one");
        for (int walking = 0; walking <= 3; walking++) {
            for (int hours = 1; hours <= 4; hours++) {
                FlumeRegistry y = ringing(100, walking, hours);
                y.pass(hours + 1);
                same("the siren", y.siren(0), RIGHT);
                same("saved by " + hours + " hours of " + walking, y.saved(0), hours >= walking ? 100 : 0);
            }
        }
        FlumeRegistry z = valley(100, 2);
        z.rain(0, 3, 40);
        z.run(0, 3);
        z.pass(2);
        z.sound(0, 0);
        z.pass(2);
        same("saved, by one hour behind the siren, and three behind the run", z.saved(0), 0);
    }

    private static void wrong() {
        part("if this is the last hour of its run or a later one, it is WRONG");
        FlumeRegistry x = ringing(100, 0, 3);
        rule(x, 0, "0");
        x.pass(3);
        same("the siren, before the last hour has passed", x.siren(0), RINGS);
        x.pass(1);
        same("the siren, when the last hour has passed", x.siren(0), WRONG);
        part("the trust becomes itself times 0.75f");
        bits("the trust", x.trust(0), 0.75f);
        same("saved", x.saved(0), 0);
        x.pass(3);
        bits("the trust, when more hours have passed", x.trust(0), 0.75f);
        x.sound(0, 0);
        x.pass(1);
        same("the siren, an hour later than its run", x.siren(1), WRONG);
        bits("the trust of two", x.trust(0), 0.75f * 0.75f);
        says("Then it is the next hour.");
        FlumeRegistry y = ringing(100, 0, 2);
        rule(y, 0, "h");
        same("the hour of now", y.pass(1), 1);
        same("the hour of now", y.pass(1), 2);
        y.rain(0, 2, 41);
        y.rain(0, 2, 40);
        y.rain(0, 0, 99);
        same("the hour of now", y.pass(3), 5);
        same("the siren, judged in the hour 2", y.siren(0), WITHDRAWN);
        bits("below in the hour 4", y.below(0, 4), 4f);
        bits("below in the hour 2", y.below(0, 2), 2f);
        fails("below in the hour of now", ARGUMENT, () -> y.below(0, 5));
        y.run(0, 1);
        same("a run from the hour of now on", y.peakHour(1), 5);
    }

    private static void constants() {
        says("The constants: `NONE = -1`: None.");
        same("NONE", FlumeRegistry.NONE, -1);
        says("`STANDS = 0, MENDED = 1, RAINED = 2`: What is against a run.");
        same("STANDS", FlumeRegistry.STANDS, 0);
        same("MENDED", FlumeRegistry.MENDED, 1);
        same("RAINED", FlumeRegistry.RAINED, 2);
        says("`RINGS = 0, RIGHT = 1, WRONG = 2, WITHDRAWN = 3`: What becomes of a siren.");
        same("RINGS", FlumeRegistry.RINGS, 0);
        same("RIGHT", FlumeRegistry.RIGHT, 1);
        same("WRONG", FlumeRegistry.WRONG, 2);
        same("WITHDRAWN", FlumeRegistry.WITHDRAWN, 3);
    }

    /** Each public method of the source, behind the heading that stands ahead of it. */
    private static List<String> callsByHeading() throws IOException {
        List<String> found = new ArrayList<>();
        Pattern call = Pattern.compile(" {4}public (int|void) (\\w+)\\(.*");
        String heading = "none";
        for (String line : Files.readAllLines(Path.of("src/main/java/FlumeRegistry.java"))) {
            Matcher matcher = call.matcher(line);
            if (line.startsWith("    // ---- ")) {
                heading = line.substring(7);
            } else if (matcher.matches()) {
                found.add(heading + ": " + matcher.group(2));
            }
        }
        return found;
    }

    private static void headings() throws IOException {
        List<String> found = callsByHeading();
        int at = 0;
        String[] headed = {"---- texts: type, wipe, fault", "---- versions: publish, retire, latest, pin", "---- rains and outputs: rain, out, outAnew",
            "---- runs: run, why, peak, peakHour, peakAnew", "---- dams: build, rule, goBy, level, below",
            "---- valleys: valley, sound, siren, walkers, trust, saved, alarm", "---- hours: pass"};
        for (String line : headed) {
            String heading = line.substring(0, line.indexOf(':'));
            String[] calls = line.substring(line.indexOf(':') + 2).split(", ");
            says("Ahead of the calls `" + String.join("`, `", calls) + "` the interface says: " + heading + ".");
            for (String call : calls) {
                same("the call " + call, at < found.size() ? found.get(at) : "none", heading + ": " + call);
                at++;
            }
        }
        same("how many calls there are", found.size(), at);
    }
}
