/** For each sentence of the promises 17 to 31 that names an edge, a test of its own. */
public final class EdgesOfAnswersTest extends Checks {
    private static void point() {
        section("Promise 17: point");
        sentence("Returns a property of a point.");
        OathDiary busy = busy();
        for (int what = 0; what <= 7; what++) {
            int given = what;
            changesNothing("point(1, " + what + ")", busy, () -> busy.point(1, given));
        }
        sentence("- `point`: its number");
        OathDiary full = full();
        due("the first of 60", 0, full.point(0, 0));
        due("the last of 60", 590, full.point(59, 0));
        sentence("0: time; 1: value; 2: 1 if it is kept, otherwise 0; 3: 1 if it is broken, otherwise 0; 4: its stretch;");
        OathDiary x = diary(0, -999, 10, -999, 20, -999, 9999, 999);
        x.drop(1);
        int[][] want = {{0, -999, 1, 0, 0}, {10, -999, 0, 0, 0}, {20, -999, 1, 0, 0}, {9999, 999, 1, 0, 1}};
        for (int i = 0; i < want.length; i++) {
            for (int what = 0; what <= 4; what++) {
                due("point(" + i + ", " + what + ")", want[i][what], x.point(i, what));
            }
        }
        x.correct(1, -988);
        due("11 off is broken", 1, x.point(1, 3));
        x.correct(1, -989);
        due("10 off is not", 0, x.point(1, 3));
        due("a dropped first point is broken", 1, droppedAtBothEnds().point(0, 3));
        due("a dropped last point is broken", 1, droppedAtBothEnds().point(3, 3));
        pointNeighbors();
    }

    private static void pointNeighbors() {
        OathDiary x = values(0, 0, 0, 0, 0);
        x.drop(1);
        x.drop(2);
        sentence("5: the latest kept point with a lesser time in its stretch, NONE if there is none;");
        due("of the first point", NONE, x.point(0, 5));
        due("of a dropped one", 0, x.point(2, 5));
        due("over dropped ones", 0, x.point(3, 5));
        due("next to it", 3, x.point(4, 5));
        sentence("6: the earliest kept point with a greater time in its stretch, NONE if there is none;");
        due("of the last point", NONE, x.point(4, 6));
        due("of a dropped one", 3, x.point(1, 6));
        due("over dropped ones", 3, x.point(0, 6));
        due("next to it", 4, x.point(3, 6));
        x.set(1, 9);
        for (int i = 0; i < 5; i++) {
            due("none ahead of " + i + " in its stretch", NONE, x.point(i, 5));
            due("none behind " + i + " in its stretch", NONE, x.point(i, 6));
        }
        due("none ahead, as the first one is dropped", NONE, droppedAtBothEnds().point(1, 5));
        due("none behind, as the last one is dropped", NONE, droppedAtBothEnds().point(2, 6));
        sentence("7: why it cannot be dropped, as told for whyNot");
        OathDiary y = values(0, 5, 0, 50, 0);
        y.drop(1);
        int[] why = {2, 1, 3, 3, 2};
        for (int i = 0; i < 5; i++) {
            due("of point " + i, why[i], y.point(i, 7));
        }
        y.keep(1);
        due("it can", 0, y.point(1, 7));
        sentence("Throws `IndexOutOfBoundsException` if there is no such point");
        refusedOutside(0, 4, x, INDEX, point -> x.point(point, 0));
        OathDiary full = full();
        refusedOutside(0, 59, full, INDEX, point -> full.point(point, 8));
        OathDiary empty = new OathDiary();
        refused("an empty diary", empty, INDEX, () -> empty.point(0, 0));
        sentence("Throws `IllegalArgumentException` if what is not 0 to 7");
        refusedOutside(0, 7, x, ARGUMENT, what -> x.point(0, what));
        sentence("Returns the property.");
        due("the least value", -999, diary(0, -999).point(0, 1));
    }

    private static void error() {
        section("Promise 18: error");
        sentence("Returns the error of a point (0 if it is kept).");
        OathDiary x = values(0, 0, 0, 10, 0);
        x.drop(1);
        dueText("kept", "0/1", error(x, 3));
        dueText("the first", "0/1", error(x, 0));
        OathDiary alone = diary(5, 5);
        dueText("kept, and alone", "0/1", error(alone, 0));
        OathDiary busy = busy();
        changesNothing("error", busy, () -> busy.error(1, 0) + busy.error(1, 1));
        sentence("- `point`: its number");
        OathDiary full = full();
        full.thin(0);
        dueText("the first dropped one of 60", "0/1", error(full, 1));
        dueText("the last dropped one of 60", "0/1", error(full, 58));
        sentence("- `what`: 0: the numerator; 1: the denominator");
        OathDiary thirds = values(0, 5, 8, 10);
        thirds.thin(2);
        dueText("5 off 10/3", "5/3", error(thirds, 1));
        dueText("8 off 20/3", "4/3", error(thirds, 2));
        thirds.correct(1, -999);
        dueText("below", "3007/3", error(thirds, 1));
        thirds.set(2, 1);
        dueText("by steps", "999/1", error(thirds, 1));
        sentence("Returns the number; NONE if there is no reading at its time.");
        dueText("alone and dropped", "NONE", error(allDropped(), 0));
        dueText("no kept one ahead", "NONE", error(droppedAtBothEnds(), 0));
        dueText("no kept one behind", "NONE", error(droppedAtBothEnds(), 3));
        thirds.set(1, 9);
        dueText("none in its stretch, by steps", "NONE", error(thirds, 1));
        sentence("Throws `IndexOutOfBoundsException` if there is no such point");
        refusedOutside(0, 4, x, INDEX, point -> x.error(point, 0));
        OathDiary empty = new OathDiary();
        refused("an empty diary", empty, INDEX, () -> empty.error(0, 2));
        sentence("Throws `IllegalArgumentException` if what is not 0 or 1");
        refusedOutside(0, 1, x, ARGUMENT, what -> x.error(0, what));
    }

    private static void reading() {
        section("Promise 19: reading");
        sentence("Returns the reading at a time.");
        OathDiary busy = busy();
        changesNothing("reading", busy, () -> busy.reading(15, 0) + busy.reading(15, 1));
        changesNothing("no reading", busy, () -> busy.reading(300, 0));
        sentence("- `time`: 0 to 9999");
        OathDiary x = diary(0, 5, 9999, 6);
        dueText("the least", "5/1", reading(x, 0));
        dueText("the greatest", "6/1", reading(x, 9999));
        dueText("next to the least", "NONE", reading(x, 1));
        dueText("next to the greatest", "NONE", reading(x, 9998));
        sentence("0: the numerator (below 0 if the reading is); 1: the denominator");
        OathDiary y = values(1, -2);
        dueText("above 0", "7/10", reading(y, 1));
        dueText("below 0", "-1/2", reading(y, 5));
        dueText("just below 0", "-1/5", reading(y, 4));
        sentence("Returns the number; NONE if there is no reading.");
        dueText("ahead of all", "NONE", reading(diary(1, 0, 2, 0), 0));
        dueText("behind all", "NONE", reading(diary(1, 0, 2, 0), 3));
        dueText("an empty diary", "NONE", reading(new OathDiary(), 5));
        dueText("a dropped point alone", "NONE", reading(allDropped(), 10));
        sentence("Throws `IllegalArgumentException` if time or what is out of range");
        refusedOutside(0, 9999, x, ARGUMENT, time -> x.reading(time, 0));
        refusedOutside(0, 1, x, ARGUMENT, what -> x.reading(0, what));
        refused("both", x, ARGUMENT, () -> x.reading(-1, 2));
        refused("without a reading, too", x, ARGUMENT, () -> x.reading(1, 2));
    }

    private static void stretch() {
        section("Promise 20: stretch");
        sentence("Returns a property of a stretch.");
        OathDiary busy = busy();
        for (int what = 0; what <= 4; what++) {
            int given = what;
            changesNothing("stretch(0, " + what + ")", busy, () -> busy.stretch(0, given));
        }
        sentence("- `stretch`: its number");
        OathDiary apart = full();
        apart.set(1, 9);
        for (int i = 0; i < 60; i++) {
            due("the first point of " + i, i, apart.stretch(i, 0));
            due("the points of " + i, 1, apart.stretch(i, 1));
        }
        sentence("0: its first point; 1: its points; 2: of these, kept; 3: of these, broken; 4: how many would be kept if it was thinned by way 2");
        OathDiary x = diary(0, 7, 500, 0, 510, 5, 520, 0, 530, 50, 540, 0);
        x.drop(2);
        x.correct(2, 11);
        int[][] want = {{0, 1, 1, 0, 1}, {1, 5, 4, 1, 5}};
        for (int i = 0; i < want.length; i++) {
            for (int what = 0; what <= 4; what++) {
                due("stretch(" + i + ", " + what + ")", want[i][what], x.stretch(i, what));
            }
        }
        OathDiary full = full();
        due("60 points", 60, full.stretch(0, 1));
        due("60 kept ones", 60, full.stretch(0, 2));
        due("2 would be kept", 2, full.stretch(0, 4));
        full.thin(2);
        due("2 are kept", 2, full.stretch(0, 2));
        due("the others are not broken", 0, full.stretch(0, 3));
        due("none is kept", 0, allDropped().stretch(0, 2));
        due("one is broken", 1, allDropped().stretch(0, 3));
        due("one would be kept", 1, allDropped().stretch(0, 4));
        due("a dropped first point", 2, droppedAtBothEnds().stretch(0, 4));
        due("a dropped last point", 2, droppedAtBothEnds().stretch(1, 4));
        sentence("Returns the property.");
        due("the first of 60", 0, full.stretch(0, 0));
        sentence("Throws `IndexOutOfBoundsException` if there is no such stretch");
        refusedOutside(0, 59, apart, INDEX, stretch -> apart.stretch(stretch, 0));
        refusedOutside(0, 1, x, INDEX, stretch -> x.stretch(stretch, 4));
        OathDiary empty = new OathDiary();
        refused("an empty diary", empty, INDEX, () -> empty.stretch(0, 5));
        sentence("Throws `IllegalArgumentException` if what is not 0 to 4");
        refusedOutside(0, 4, x, ARGUMENT, what -> x.stretch(1, what));
    }

    private static void noteAt() {
        section("Promise 21: noteAt");
        sentence("Returns a part of a note of the heir.");
        OathDiary busy = busy();
        changesNothing("noteAt", busy, () -> busy.noteAt(1, 0) + busy.noteAt(1, 1) + busy.noteAt(1, 2));
        sentence("- `note`: its number");
        OathDiary x = values(0, 0);
        for (int i = 0; i < 8; i++) {
            x.note(i * 9999 / 7, i * 1998 / 7 - 999);
        }
        due("the first time", 0, x.noteAt(0, 0));
        due("the last time", 9999, x.noteAt(7, 0));
        due("the first value", -999, x.noteAt(0, 1));
        due("the last value", 999, x.noteAt(7, 1));
        sentence("0: its time; 1: its value; 2: 1 if it is true, otherwise 0");
        OathDiary y = values(0, 5);
        y.note(5, 12);
        y.note(5, 13);
        y.note(11, 5);
        int[][] want = {{5, 12, 1}, {5, 13, 0}, {11, 5, 0}};
        for (int i = 0; i < want.length; i++) {
            for (int what = 0; what <= 2; what++) {
                due("noteAt(" + i + ", " + what + ")", want[i][what], y.noteAt(i, what));
            }
        }
        sentence("Returns the part.");
        y.set(0, 500);
        due("it gets true with the oath", 1, y.noteAt(1, 2));
        sentence("Throws `IndexOutOfBoundsException` if there is no such note");
        refusedOutside(0, 7, x, INDEX, note -> x.noteAt(note, 0));
        refusedOutside(0, 2, y, INDEX, note -> y.noteAt(note, 3));
        OathDiary empty = values(0);
        refused("no note", empty, INDEX, () -> empty.noteAt(0, 2));
        y.strike();
        refused("a struck one", y, INDEX, () -> y.noteAt(1, 0));
        sentence("Throws `IllegalArgumentException` if what is not 0 to 2");
        refusedOutside(0, 2, x, ARGUMENT, what -> x.noteAt(7, what));
    }

    private static void count() {
        section("Promise 22: count");
        sentence("Returns a number.");
        OathDiary busy = busy();
        for (int what = 0; what <= 10; what++) {
            int given = what;
            changesNothing("count(" + what + ")", busy, () -> busy.count(given));
            due("an empty diary, count(" + what + ")", 0, new OathDiary().count(what));
        }
        sentence("0: points; 1: kept ones; 2: broken ones; 3: stretches; 4: notes; 5: true notes;");
        OathDiary full = full();
        full.thin(1);
        for (int i = 0; i < 8; i++) {
            full.note(i, 9 + i / 2);
        }
        int[] want = {60, 2, 0, 1, 8, 4};
        for (int what = 0; what <= 5; what++) {
            due("count(" + what + ")", want[what], full.count(what));
        }
        full.set(1, 9);
        due("58 are broken", 58, full.count(2));
        due("60 stretches", 60, full.count(3));
        due("a note between has no reading", 1, full.count(5));
        sentence("6: the greatest error of dropped points, rounded up, 0 without any reading of dropped points;");
        OathDiary x = values(0, 9, 0, 0);
        due("none is dropped", 0, x.count(6));
        x.thin(2);
        due("9", 9, x.count(6));
        x.correct(3, 1);
        due("9 off 1/3", 9, x.count(6));
        x.correct(3, -1);
        due("9 off -1/3", 10, x.count(6));
        x.correct(1, 999);
        due("broken ones, too", 1000, x.count(6));
        x.set(1, 9);
        due("no reading", 0, x.count(6));
        due("no error", 0, thinned(full()).count(6));
        due("no reading at both ends", 0, droppedAtBothEnds().count(6));
        due("1/2", 1, thinned(values(0, 1, 1)).count(6));
        countsSoFar();
    }

    private static OathDiary thinned(OathDiary x) {
        x.thin(2);
        return x;
    }

    private static void countsSoFar() {
        sentence("7: how often the diary was thinned so far;");
        OathDiary x = values(0, 0, 0);
        for (int i = 1; i <= 9; i++) {
            x.thin(i % 3);
            due("thinned", i, x.count(7));
        }
        refused("another way", x, ARGUMENT, () -> x.thin(3));
        x.ifThinned(1);
        due("what would be is not counted", 9, x.count(7));
        sentence("8: how many points were torn out so far;");
        OathDiary y = full();
        for (int i = 0; i < 3; i++) {
            y.tear(0);
            due("torn", 60 * (i + 1), y.count(8));
            for (int j = 0; j < 60; j++) {
                y.add(j, 0);
            }
        }
        refused("no stretch", y, INDEX, () -> y.tear(1));
        due("as before", 180, y.count(8));
        sentence("9: the greatest time from a kept point to the next kept one in a stretch, 0 if there are none;");
        due("one point", 0, diary(5, 5).count(9));
        due("a gap does not count", 10, diary(0, 0, 10, 0, 111, 0, 115, 0).count(9));
        due("as long as setting 1", 100, diary(0, 0, 100, 0).count(9));
        due("each one alone", 0, diary(0, 0, 101, 0).count(9));
        due("over dropped ones", 590, thinned(full()).count(9));
        due("a dropped point at each end", 0, droppedAtBothEnds().count(9));
        due("none is kept", 0, allDropped().count(9));
        OathDiary wide = new OathDiary();
        wide.set(1, 2000);
        for (int i = 0; i < 6; i++) {
            wide.add(Math.min(2000 * i, 9999), 0);
        }
        due("the longest of all", 9999, thinned(wide).count(9));
        sentence("10: saved states");
        due("none", 0, new OathDiary().count(10));
        due("as many as there may be", 6, full().count(10));
        sentence("Throws `IllegalArgumentException` if what is not 0 to 10");
        refusedOutside(0, 10, x, ARGUMENT, what -> x.count(what));
        sentence("Returns the number.");
        due("60", 60, full().count(0));
    }

    private static void setting() {
        section("Promise 23: setting");
        sentence("Returns a setting.");
        OathDiary x = new OathDiary();
        changesNothing("setting", x, () -> x.setting(1));
        sentence("- `setting`: 0 to 2");
        x.set(0, 500);
        x.set(1, 2000);
        x.set(2, 1);
        dueText("the greatest ones", "500 2000 1", x.setting(0) + " " + x.setting(1) + " " + x.setting(2));
        sentence("Returns its value.");
        x.set(0, 0);
        x.set(1, 1);
        x.set(2, 0);
        dueText("the least ones", "0 1 0", x.setting(0) + " " + x.setting(1) + " " + x.setting(2));
        sentence("Throws `IndexOutOfBoundsException` if there is no such setting");
        refusedOutside(0, 2, x, INDEX, setting -> x.setting(setting));
    }

    private static void area() {
        section("Promise 24: area");
        sentence("Returns the area under the diary.");
        OathDiary busy = busy();
        changesNothing("area(false)", busy, () -> busy.area(false));
        changesNothing("area(true)", busy, () -> busy.area(true));
        sentence("- `all`: whether all points count as kept");
        OathDiary x = values(0, 7, 1, 0);
        x.drop(1);
        due("the kept ones", 1 * 20 + 1 * 10, x.area(false));
        due("all", 7 * 10 + 8 * 10 + 1 * 10, x.area(true));
        due("all are as they were", 3, x.count(1));
        sentence("over each two kept points of a stretch that follow one another (no other kept one is between them)");
        for (int i = 0; i <= 1; i++) {
            due("no point", 0, new OathDiary().area(i == 0));
            due("one point", 0, diary(5, 999).area(i == 0));
            due("a dropped point alone", 0, allDropped().area(i == 0));
            due("over no gap", 0, diary(0, 9, 101, 9).area(i == 0));
            due("over the longest time without one", 1800, diary(0, 9, 100, 9).area(i == 0));
            due("by stretches", 18 + 54, diary(0, 9, 1, 9, 500, 9, 503, 9).area(i == 0));
        }
        OathDiary ends = droppedAtBothEnds();
        ends.correct(0, 3);
        ends.correct(3, 5);
        due("dropped ones at the ends", 0, ends.area(false));
        due("these, too", 30 + 50, ends.area(true));
        sentence("with setting 2 as 0 the sum of both values, with 1 twice the value of the first one, times the difference of the times.");
        OathDiary wide = new OathDiary();
        wide.set(1, 2000);
        for (int i = 0; i < 6; i++) {
            wide.add(Math.min(2000 * i, 9999), -999);
        }
        due("the least area", -19978002, wide.area(true));
        wide.thin(2);
        due("the least area of two", -19978002, wide.area(false));
        wide.correct(5, 999);
        due("no area", 0, wide.area(false));
        due("the last one above, all", -1998 * 8000, wide.area(true));
        wide.set(2, 1);
        due("by steps", -19978002, wide.area(false));
        due("by steps, all", -19978002, wide.area(true));
        wide.correct(0, 999);
        due("by steps, above", 19978002, wide.area(false));
        due("by steps, all, the first one above", 1998 * 2000 - 1998 * 7999, wide.area(true));
    }

    private static void whyNot() {
        section("Promise 25: whyNot");
        sentence("Tells why a point cannot be dropped.");
        OathDiary busy = busy();
        changesNothing("whyNot", busy, () -> busy.whyNot(2));
        sentence("- `point`: its number");
        due("the first of 60", 2, full().whyNot(0));
        due("the last of 60", 2, full().whyNot(59));
        sentence("Returns 0 if it can; otherwise the first one of these that applies:");
        due("0", 0, values(0, 10, 0).whyNot(1));
        due("dropped, and none ahead", 1, droppedAtBothEnds().whyNot(0));
        due("dropped, and none behind", 1, droppedAtBothEnds().whyNot(3));
        due("dropped, and alone", 1, allDropped().whyNot(0));
        OathDiary broken = values(0, 10, 0);
        broken.drop(1);
        broken.set(0, 9);
        due("dropped, and broken", 1, broken.whyNot(1));
        sentence("2 no kept point with a lesser time is in its stretch, or none with a greater time;");
        due("alone", 2, diary(5, 5).whyNot(0));
        due("only dropped ones ahead", 2, droppedAtBothEnds().whyNot(1));
        due("only dropped ones behind", 2, droppedAtBothEnds().whyNot(2));
        due("those ahead are behind a gap", 2, diary(0, 0, 101, 0, 110, 0).whyNot(1));
        due("those behind are behind a gap", 2, diary(0, 0, 10, 0, 111, 0).whyNot(1));
        due("no gap", 0, diary(0, 0, 100, 0, 200, 0).whyNot(1));
        sentence("3 the nearest such ones cannot be joined.");
        due("11 off", 3, values(0, 11, 0).whyNot(1));
        due("-11 off", 3, values(0, -11, 0).whyNot(1));
        due("21/2 off", 3, values(0, 10, -1).whyNot(1));
        due("not as far off", 0, values(0, 10, 1).whyNot(1));
        OathDiary x = values(0, 10, 0, 0);
        x.drop(1);
        due("a dropped one would be 10 off", 0, x.whyNot(2));
        x.correct(3, -1);
        due("a dropped one would be 31/3 off", 3, x.whyNot(2));
        x.set(2, 1);
        due("by steps it would be 10 off", 0, x.whyNot(2));
        sentence("Throws `IndexOutOfBoundsException` if there is no such point");
        refusedOutside(0, 3, x, INDEX, point -> x.whyNot(point));
        OathDiary empty = new OathDiary();
        refused("an empty diary", empty, INDEX, () -> empty.whyNot(0));
    }

    private static void join() {
        section("Promise 26: join");
        sentence("Tells whether two points can be joined.");
        OathDiary busy = busy();
        changesNothing("join", busy, () -> busy.join(0, 5));
        sentence("- `one`: a point");
        sentence("- `other`: another point");
        due("the first and the last of 60", 58, full().join(0, 59));
        due("the last two", 0, full().join(58, 59));
        sentence("Returns how many points between them would be within the oath, if these two were kept, and none between them was;");
        OathDiary x = values(0, 10, 11, -10, -11, 0);
        due("two of four", 2, x.join(0, 5));
        due("neighbors", 0, x.join(2, 3));
        x.drop(1);
        due("dropped ones are counted alike", 2, x.join(0, 5));
        due("from a dropped one", 2, x.join(1, 4));
        due("to a dropped one", 0, x.join(0, 1));
        x.set(0, 0);
        due("with the oath 0", 0, x.join(0, 5));
        x.set(0, 500);
        due("with the greatest oath", 4, x.join(0, 5));
        x.set(2, 1);
        x.set(0, 1);
        due("by steps", 1, x.join(1, 5));
        sentence("NONE if they are not in the same stretch.");
        due("behind a gap", NONE, diary(0, 0, 101, 0).join(0, 1));
        due("no gap", 0, diary(0, 0, 100, 0).join(0, 1));
        due("behind two", NONE, diary(0, 0, 200, 0, 400, 0).join(0, 2));
        sentence("Throws `IndexOutOfBoundsException` if there is no such point");
        refusedOutside(0, 5, x, INDEX, one -> x.join(one, 5));
        refusedOutside(0, 5, x, INDEX, other -> x.join(0, other));
        OathDiary empty = new OathDiary();
        refused("an empty diary", empty, INDEX, () -> empty.join(0, 0));
        sentence("Throws `IllegalArgumentException` if other is not greater than one");
        refused("alike", x, ARGUMENT, () -> x.join(0, 0));
        refused("alike at the end", x, ARGUMENT, () -> x.join(5, 5));
        refused("less by 1", x, ARGUMENT, () -> x.join(1, 0));
        OathDiary apart = diary(0, 0, 500, 0);
        refused("less, and not in the same stretch", apart, ARGUMENT, () -> apart.join(1, 0));
    }

    private static void ifThinned() {
        section("Promise 27: ifThinned");
        sentence("Tells how many points would be kept by a way to thin.");
        OathDiary busy = busy();
        for (int way = 0; way <= 2; way++) {
            int given = way;
            changesNothing("ifThinned(" + way + ")", busy, () -> busy.ifThinned(given));
        }
        sentence("- `way`: 0 to 2");
        OathDiary unlike = values(0, 10, 10, -10, -10, 10, 0);
        unlike.set(0, 9);
        dueText("each by its own way", "6 7 5", unlike.ifThinned(0) + " " + unlike.ifThinned(1) + " " + unlike.ifThinned(2));
        sentence("Returns how many points would be kept.");
        for (int way = 0; way <= 2; way++) {
            due("none", 0, new OathDiary().ifThinned(way));
            due("one", 1, diary(5, 5).ifThinned(way));
            due("a dropped one", 1, allDropped().ifThinned(way));
            due("60 in a stretch", 2, full().ifThinned(way));
            OathDiary apart = full();
            apart.set(1, 9);
            due("60 stretches", 60, apart.ifThinned(way));
            OathDiary before = thinned(values(0, 0, 0));
            before.correct(1, 11);
            due("whatever is kept now", 3, before.ifThinned(way));
        }
        sentence("Throws `IllegalArgumentException` if way is out of range");
        refusedOutside(0, 2, unlike, ARGUMENT, way -> unlike.ifThinned(way));
    }

    private static void leastOath() {
        section("Promise 28: leastOath");
        sentence("Finds the least oath for a diary of some length.");
        OathDiary busy = busy();
        changesNothing("leastOath", busy, () -> busy.leastOath(2));
        sentence("- `many`: 0 to 60");
        due("the least, an empty diary", 0, new OathDiary().leastOath(0));
        due("the greatest, an empty diary", 0, new OathDiary().leastOath(60));
        due("the least, 60 points", NONE, full().leastOath(0));
        due("the greatest, 60 points", 0, full().leastOath(60));
        OathDiary apart = full();
        apart.set(1, 9);
        due("60 stretches", 0, apart.leastOath(60));
        due("59 of them", NONE, apart.leastOath(59));
        sentence("Returns the least oath, 0 to 500, with which thinning by way 2 would keep at most so many points;");
        due("0 for two on a line", 0, full().leastOath(2));
        due("1 for 1/2", 1, values(0, 1, 1).leastOath(2));
        due("1 for 1", 1, values(0, 1, 0).leastOath(2));
        due("2 for 3/2", 2, values(0, 2, 1).leastOath(2));
        for (int oath = 0; oath <= 499; oath++) {
            due("" + oath, oath, values(0, oath, 0).leastOath(2));
        }
        due("500 for 999/2", 500, values(0, 500, 1).leastOath(2));
        due("500", 500, values(0, 500, 0).leastOath(2));
        due("500 below", 500, values(0, -500, 0).leastOath(2));
        OathDiary x = values(0, 10, 0, 10, 20);
        x.set(0, 300);
        dueText("whatever the oath is now", "10 7 0 0", x.leastOath(2) + " " + x.leastOath(3) + " " + x.leastOath(4) + " " + x.leastOath(5));
        x.set(2, 1);
        dueText("by steps", "10 10 10 0", x.leastOath(2) + " " + x.leastOath(3) + " " + x.leastOath(4) + " " + x.leastOath(5));
        OathDiary several = diary(0, 0, 10, 7, 20, 0, 500, 0, 510, 9, 520, 0, 900, 0);
        dueText("over all stretches", "9 7 0", several.leastOath(5) + " " + several.leastOath(6) + " " + several.leastOath(7));
        sentence("NONE if there is none.");
        due("501", NONE, values(0, 501, 0).leastOath(2));
        due("1001/2", NONE, values(0, 500, -1).leastOath(2));
        due("1998", NONE, values(-999, 999, -999).leastOath(2));
        due("but all of them", 0, values(-999, 999, -999).leastOath(3));
        due("one of two", NONE, values(0, 0).leastOath(1));
        due("none of one", NONE, values(0).leastOath(0));
        due("one of one", 0, values(0).leastOath(1));
        sentence("Throws `IllegalArgumentException` if many is out of range");
        refusedOutside(0, 60, x, ARGUMENT, many -> x.leastOath(many));
    }

    private static void cheapest() {
        section("Promise 29: cheapest");
        sentence("Finds the kept point that is missed least.");
        OathDiary busy = busy();
        changesNothing("cheapest(0)", busy, () -> busy.cheapest(0));
        changesNothing("cheapest(1)", busy, () -> busy.cheapest(1));
        sentence("0: of the points that can be dropped the one for which the greatest error of the points between its kept neighbors (the point itself, too) would be least, of several the lowest number;");
        due("the last one of three", 3, values(0, 6, 0, 4, 0).cheapest(0));
        due("two alike", 1, values(0, 6, 6, 0).cheapest(0));
        due("60 alike", 1, full().cheapest(0));
        due("3/2 and 6/4", 1, diary(0, 0, 10, 2, 20, 1, 300, 0, 310, 2, 340, 2).cheapest(0));
        due("3/2 and 4/3, which are alike only when rounded up", 4, diary(0, 0, 10, 2, 20, 1, 300, 0, 310, 2, 330, 2).cheapest(0));
        // without 2 the dropped 1 would be 8 off; without 5 it alone would be 7 off
        OathDiary dropped = diary(0, 0, 10, 8, 20, 0, 30, 0, 300, 0, 310, 7, 320, 0);
        dropped.drop(1);
        due("dropped ones between count, too", 5, dropped.cheapest(0));
        sentence("1: this greatest error, rounded up");
        due("no error", 0, full().cheapest(1));
        due("1/2", 1, values(0, 1, 1).cheapest(1));
        due("2", 2, values(0, 2, 0).cheapest(1));
        due("5/2", 3, values(0, 3, 1).cheapest(1));
        due("as great as the oath", 10, values(0, 10, 0).cheapest(1));
        due("the point itself", 7, dropped.cheapest(1));
        due("another one would be 6 off", 4, values(0, 4, 0, 6, 0).cheapest(1));
        dropped.drop(5);
        due("the greatest one, not its own", 2, dropped.cheapest(0));
        due("is that of a dropped one", 8, dropped.cheapest(1));
        OathDiary greatest = values(0, 500, 0);
        greatest.set(0, 500);
        due("as great as the greatest oath", 500, greatest.cheapest(1));
        sentence("Returns the number; NONE if no point can be dropped.");
        OathDiary beyond = values(0, 11, 0);
        for (int what = 0; what <= 1; what++) {
            due("no point", NONE, new OathDiary().cheapest(what));
            due("one point", NONE, diary(5, 5).cheapest(what));
            due("two points", NONE, values(0, 0).cheapest(what));
            due("11 off", NONE, beyond.cheapest(what));
            due("all is thinned", NONE, thinned(full()).cheapest(what));
            due("none is kept", NONE, allDropped().cheapest(what));
        }
        sentence("Throws `IllegalArgumentException` if what is not 0 or 1");
        refusedOutside(0, 1, beyond, ARGUMENT, what -> beyond.cheapest(what));
        OathDiary empty = new OathDiary();
        refusedOutside(0, 1, empty, ARGUMENT, what -> empty.cheapest(what));
    }

    private static void dueBits(String what, double want, double got) {
        due(what, Double.doubleToLongBits(want), Double.doubleToLongBits(got));
    }

    private static void droppedShare() {
        section("Promise 30: droppedShare");
        sentence("Returns how much of the diary is dropped.");
        OathDiary busy = busy();
        changesNothing("droppedShare", busy, () -> Double.doubleToLongBits(busy.droppedShare()));
        sentence("Returns the number of dropped points, as a double, divided by count(0);");
        dueBits("none", 0.0, full().droppedShare());
        dueBits("all but two of 60", 58.0 / 60, thinned(full()).droppedShare());
        dueBits("one of three", 1.0 / 3, thinned(values(0, 0, 0)).droppedShare());
        dueBits("half of them", 0.5, droppedAtBothEnds().droppedShare());
        dueBits("all", 1.0, allDropped().droppedShare());
        sentence("0.0 if that is 0.");
        dueBits("an empty diary", 0.0, new OathDiary().droppedShare());
        OathDiary torn = allDropped();
        torn.tear(0);
        dueBits("all is torn", 0.0, torn.droppedShare());
    }

    private static void dueDigest(String what, OathDiary x, String buffer) {
        due(what, hash(valuesOf(x, buffer)), x.digest());
    }

    private static void digest() {
        section("Promise 31: digest");
        sentence("Computes a hash of the whole state.");
        OathDiary busy = busy();
        changesNothing("digest", busy, () -> busy.digest());
        dueDigest("dropped points, notes, and a buffer", busy, "10:0,20");
        sentence("The hash starts at 2381.");
        due("an empty diary", hash(0, 0, 0, 0, 0, 0, 0, 0, 0, 0, 0, 10, 100, 0, 0, 0, 0, 0, NONE, NONE, 0, 0, 0, 0), new OathDiary().digest());
        sentence("the hash becomes 31 * hash + v, in long arithmetic with overflow.");
        OathDiary full = full();
        full.thin(2);
        full.correct(30, -999);
        for (int i = 0; i < 8; i++) {
            full.note(70 * i, i);
        }
        full.set(2, 1);
        String text = "0:0,".repeat(15);
        write(full, text);
        dueDigest("60 points, 8 notes, and 60 characters", full, text);
        full.set(1, 9);
        dueDigest("60 stretches", full, text);
        sentence("for each point its properties 0 to 7, and its error with 0 and 1; for each stretch its properties 0 to 4; for each note its parts 0 to 2;");
        dueDigest("a dropped point alone", allDropped(), "");
        dueDigest("dropped points at the ends", droppedAtBothEnds(), "");
        sentence("ifThinned with 0 to 2; leastOath with 10; cheapest with 0 and 1; area(false), area(true);");
        OathDiary unlike = values(0, 10, 10, -10, -10, 10, 0, 0, 400, -400, 400, -400, 400);
        unlike.set(0, 9);
        dueDigest("each way answers another number", unlike, "");
        sentence("the bits of droppedShare (as Double.doubleToLongBits);");
        OathDiary shares = full();
        for (int i = 1; i <= 58; i++) {
            shares.drop(i);
            dueDigest(i + " of 60", shares, "");
        }
        sentence("the length of the buffer and each of its character codes.");
        dueDigest("the least and the greatest code", written("!~"), "!~");
        sentence("Returns the hash.");
        due("once more", busy.digest(), busy.digest());
    }

    public static void main(String[] args) {
        point();
        error();
        reading();
        stretch();
        noteAt();
        count();
        setting();
        area();
        whyNot();
        join();
        ifThinned();
        leastOath();
        cheapest();
        droppedShare();
        digest();
        end();
    }
}
