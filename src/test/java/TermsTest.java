/** For each sentence of the section Terms that names an edge, a test of its own. */
public final class TermsTest extends Checks {
    private static void calls() {
        section("What it is");
        sentence("The diary of a thermometer");
        due("a new diary", 0, new OathDiary().count(0));
        sentence("An object is used for at most 512 calls after it has been made");
        OathDiary x = new OathDiary();
        for (int i = 0; i < 256; i++) {
            due("set, call " + (2 * i + 1), i == 0 ? 10 : 499 + i % 2, x.set(0, 500 - i % 2));
            due("setting, call " + (2 * i + 2), 500 - i % 2, x.setting(0));
        }
    }

    private static void constants() {
        section("Terms");
        sentence("`NONE = -1000000`: There is nothing to return.");
        due("NONE", -1000000, OathDiary.NONE);
        due("no reading", -1000000, new OathDiary().reading(0, 0));
        sentence("All numbers are integers; divisions are rounded down, unless something else is told.");
        due("the error 1/2 is told to be rounded up", 1, thinned(diary(0, 0, 1, 1, 2, 1)).count(6));
    }

    private static OathDiary thinned(OathDiary x) {
        x.thin(2);
        return x;
    }

    private static void points() {
        sentence("Points, gaps, stretches");
        due("none at first", 0, new OathDiary().count(3));
        sentence("There are at most 60 points, numbered from 0 in the order of their times.");
        OathDiary down = new OathDiary();
        for (int i = 59; i >= 0; i--) {
            due("each one ahead of all", 0, down.add(i * 100, i));
        }
        OathDiary mixed = new OathDiary();
        for (int i = 0; i < 60; i++) {
            mixed.add(i * 37 % 60 * 100, i * 37 % 60);
        }
        for (int i = 0; i < 60; i++) {
            due("time of point " + i, i * 100, down.point(i, 0));
            due("value of point " + i, i, down.point(i, 1));
            due("value of point " + i + ", mixed up", i, mixed.point(i, 1));
        }
        refused("the 61st", down, STATE, () -> down.add(9999, 0));
        refused("point 60", down, INDEX, () -> down.point(60, 0));
        sentence("A point has a time, 0 to 9999, and a value, -999 to 999; it is kept or dropped");
        OathDiary edges = diary(0, -999, 9999, 999);
        dueText("the least and the greatest", "0:-999+ 9999:999+", points(edges));
        sentence("(the diary forgets it, but the miser does not)");
        OathDiary dropped = values(0, 7, 0);
        dropped.drop(1);
        dueText("a dropped point has its time and its value", "0:0+ 10:7- 20:0+", points(dropped));
    }

    private static void gaps() {
        sentence("Between two points that follow one another (be they kept or dropped) there is a gap if their times differ by more than setting 1.");
        for (int longest : new int[] {1, 2, 100, 1999, 2000}) {
            OathDiary x = diary(5, 0, 5 + longest, 0, 6 + 2 * longest, 0);
            x.set(1, longest);
            due("as long as setting 1 is " + longest, 0, x.point(1, 4));
            due("longer by 1", 1, x.point(2, 4));
            due("longer by 1, stretches", 2, x.count(3));
            due("longer by 1, joined", NONE, x.join(1, 2));
            due("as long, joined", 0, x.join(0, 1));
        }
        OathDiary dropped = diary(0, 0, 100, 0, 200, 0);
        dropped.drop(1);
        due("a dropped point is a point, too", 1, dropped.count(3));
        dueText("and bridges", "0/1", reading(dropped, 50));
        sentence("Gaps divide the points into stretches, numbered from 0.");
        OathDiary most = new OathDiary();
        most.set(1, 1);
        for (int i = 0; i < 60; i++) {
            most.add(2 * i, 0);
        }
        due("60 stretches", 60, most.count(3));
        for (int i = 0; i < 60; i++) {
            due("stretch of point " + i, i, most.point(i, 4));
        }
        due("no stretch without points", 0, new OathDiary().count(3));
        due("one stretch of 60", 1, full().count(3));
    }

    private static void fractions() {
        sentence("A fraction is told by its numerator and its denominator, in lowest terms, with a denominator above 0.");
        OathDiary up = diary(0, 0, 10, 4);
        dueText("2/5", "2/5", reading(up, 1));
        dueText("20/10", "2/1", reading(up, 5));
        dueText("0", "0/1", reading(up, 0));
        OathDiary down = diary(0, 0, 10, -4);
        dueText("-2/5", "-2/5", reading(down, 1));
        dueText("-20/10", "-2/1", reading(down, 5));
        dueText("0 on the line", "0/1", reading(diary(0, -5, 10, 5), 5));
        dueText("0 on the line down", "0/1", reading(diary(0, 5, 10, -5), 5));
        OathDiary steep = diary(0, -999, 1999, 999);
        steep.set(1, 2000);
        dueText("a prime denominator", "-1995003/1999", reading(steep, 1));
        OathDiary wide = diary(0, -999, 2000, -599, 4000, -200, 6000, 200, 8000, 600, 9999, 999);
        wide.set(1, 2000);
        due("kept ones", 2, wide.thin(2));
        dueText("the widest line", "1109667/1111", reading(wide, 9998));
        // at the time 8000 the line is at -999 + 1998 * 8000/9999 = 666111/1111
        wide.correct(4, 597);
        dueText("the widest line, error", "2844/1111", error(wide, 4));
    }

    private static void readings() {
        sentence("if there is a kept point with this time, it is its value.");
        OathDiary alone = diary(0, -7, 5000, 8, 9999, 9);
        dueText("at the least time", "-7/1", reading(alone, 0));
        dueText("alone in its stretch", "8/1", reading(alone, 5000));
        dueText("at the greatest time", "9/1", reading(alone, 9999));
        OathDiary dropped = values(0, 7, 4);
        dropped.drop(1);
        dueText("a dropped one is not asked", "2/1", reading(dropped, 10));
        sentence("let a be the latest kept point with a lesser time, and b the earliest kept point with a greater time.");
        OathDiary several = values(100, 0, 10, 100);
        dueText("the nearest ones", "1/1", reading(several, 11));
        dueText("the nearest ones, at the other end", "9/1", reading(several, 19));
        sentence("If one of them is missing, or they are not in the same stretch, there is no reading.");
        OathDiary x = diary(10, 0, 20, 0, 30, 0, 50, 0);
        dueText("no a", "NONE", reading(x, 9));
        dueText("no b", "NONE", reading(x, 51));
        x.drop(2);
        x.set(1, 10);
        dueText("b is behind a gap, and the time in it", "NONE", reading(x, 40));
        dueText("b is behind a gap, and the time is not in it", "NONE", reading(x, 25));
        dueText("nor at the dropped point at the end", "NONE", reading(x, 30));
        x.set(1, 20);
        dueText("without the gap", "0/1", reading(x, 25));
        dueText("all are dropped", "NONE", reading(allDropped(), 10));
        dueText("the first point is dropped", "NONE", reading(droppedAtBothEnds(), 25));
        dueText("the last point is dropped", "NONE", reading(droppedAtBothEnds(), 55));
        dueText("an empty diary, at the least time", "NONE", reading(new OathDiary(), 0));
        dueText("an empty diary, at the greatest time", "NONE", reading(new OathDiary(), 9999));
        dueText("behind 60 points", "NONE", reading(full(), 591));
        sentence("0: the value on the line from a to b at this time (a fraction); 1: the value of a.");
        OathDiary y = values(3, -4, 10);
        dueText("just behind a, on the line", "23/10", reading(y, 1));
        dueText("just ahead of b, on the line", "-33/10", reading(y, 9));
        y.set(2, 1);
        dueText("just behind a, by steps", "3/1", reading(y, 1));
        dueText("just ahead of b, by steps", "3/1", reading(y, 9));
        dueText("at b, by steps", "-4/1", reading(y, 10));
        dueText("without b there is none by steps, either", "NONE", reading(y, 21));
    }

    private static void errors() {
        sentence("The error of a point is the size of the difference between its value and the reading at its time.");
        OathDiary x = values(0, 0, 0, 10);
        x.set(0, 500);
        x.drop(1);
        x.drop(2);
        x.correct(1, 13);
        x.correct(2, -3);
        dueText("above the reading 10/3", "29/3", error(x, 1));
        dueText("below the reading 20/3", "29/3", error(x, 2));
        sentence("A dropped point is within the oath if there is a reading, and its error is at most setting 0; otherwise it is broken.");
        x.set(0, 9);
        due("29/3 is above 9", 1, x.point(1, 3));
        x.set(0, 10);
        due("29/3 is not above 10", 0, x.point(1, 3));
        x.correct(1, 10);
        x.correct(2, -1);
        x.set(0, 7);
        due("23/3 is above 7", 1, x.point(2, 3));
        x.set(0, 8);
        due("23/3 is not above 8", 0, x.point(2, 3));
        OathDiary exact = values(0, 500, 0);
        exact.set(0, 500);
        exact.drop(1);
        due("as great as the greatest oath", 0, exact.point(1, 3));
        exact.correct(1, 501);
        due("greater than the greatest oath", 1, exact.point(1, 3));
        exact.correct(1, -500);
        due("as great below", 0, exact.point(1, 3));
        exact.correct(1, -501);
        due("greater below", 1, exact.point(1, 3));
        exact.set(0, 0);
        exact.correct(1, 0);
        due("on the line, with the oath 0", 0, exact.point(1, 3));
        exact.correct(1, 1);
        due("1 off, with the oath 0", 1, exact.point(1, 3));
        exact.set(0, 500);
        exact.set(1, 9);
        due("without a reading", 1, exact.point(1, 3));
        exact.keep(1);
        due("a kept point is never broken", 0, exact.point(1, 3));
    }

    private static void joins() {
        sentence("Two points of a stretch can be joined if each point between them would be within the oath, if these two were kept and none between them was.");
        OathDiary x = values(0, 10, 10, 0);
        due("10 off and 10 off", 2, x.join(0, 3));
        due("so they can be joined", 2, x.ifThinned(2));
        x.set(0, 9);
        due("beyond", 0, x.join(0, 3));
        OathDiary two = diary(0, -999, 1, 999);
        two.set(0, 0);
        due("with none between them they always can", 2, two.ifThinned(0));
        due("no points between", 0, two.join(0, 1));
        OathDiary third = values(0, 0, 0, 31);
        due("31/3 is above 10, 62/3, too", 0, third.join(0, 3));
        third.correct(3, 30);
        due("10 is not, 20 is", 1, third.join(0, 3));
    }

    private static void thinning() {
        sentence("in each stretch by itself, whatever was kept before.");
        for (int way = 0; way <= 2; way++) {
            OathDiary x = values(0, 0, 0, 0, 0);
            x.drop(2);
            x.thin(way);
            dueText("a dropped point between, way " + way, "10001", kept(x));
            x.set(1, 9);
            x.thin(way);
            dueText("each one in a stretch of its own, way " + way, "11111", kept(x));
            OathDiary line = diary(0, 0, 50, 0, 100, 0, 201, 0, 250, 0, 300, 0);
            line.thin(way);
            dueText("no line over the gap, way " + way, "101101", kept(line));
        }
        sentence("The first and the last point of each stretch are kept.");
        for (int way = 0; way <= 2; way++) {
            due("no stretch, way " + way, 0, new OathDiary().thin(way));
            due("a stretch of one point, way " + way, 1, diary(7, 7).thin(way));
            due("a stretch of two points, way " + way, 2, diary(7, 7, 8, 8).thin(way));
            OathDiary dropped = allDropped();
            due("a dropped point alone, way " + way, 1, dropped.thin(way));
            dueText("it is kept, way " + way, "1", kept(dropped));
            OathDiary ends = droppedAtBothEnds();
            due("dropped first and last points, way " + way, 4, ends.thin(way));
            due("60 points on a line, way " + way, 2, full().thin(way));
            due("60 points up and down, way " + way, 60, upAndDown(100).thin(way));
            due("60 stretches, way " + way, 60, upAndDown(9).thin(way));
        }
    }

    /** 60 points that are -999 and 999 in turn. */
    private static OathDiary upAndDown(int longest) {
        OathDiary x = new OathDiary();
        x.set(1, longest);
        for (int i = 0; i < 60; i++) {
            x.add(10 * i, i % 2 == 0 ? -999 : 999);
        }
        return x;
    }

    private static void ways() {
        sentence("the next kept point is the last one of the stretch with which it can be joined (also if it cannot be joined with one ahead of that).");
        // 0 to 2 errs by 10 at 1, 0 to 3 by 20/3 at 1 and 2
        OathDiary far = values(0, 10, 0, 10);
        far.set(0, 9);
        far.thin(0);
        dueText("over a point with which it cannot be joined", "1001", kept(far));
        far.set(0, 6);
        far.thin(0);
        dueText("20/3 is above 6", "1111", kept(far));
        sentence("the point between them whose error would be the greatest (of several the one with the lowest number) is kept, too;");
        OathDiary halves = values(0, 50, 0, 50, 0);
        halves.set(0, 50);
        halves.thin(1);
        dueText("as great as the oath", "10001", kept(halves));
        halves.set(0, 49);
        halves.thin(1);
        // 1 to 4 errs by 100/3 at 2 and at 3
        dueText("two alike: the lowest number", "11001", kept(halves));
        OathDiary below = values(0, -50, 0, -51, 0);
        below.set(0, 49);
        below.thin(1);
        // 0 to 3 errs by 33 at 1, and by 34 at 2
        dueText("the greatest, be it below", "10011", kept(below));
        below.correct(1, -51);
        below.thin(1);
        dueText("two alike below: the lowest number", "11001", kept(below));
        sentence("and so on with the first one and this one, and with this one and the last one.");
        // 0 to 6 errs most at 3, by 90; 0 to 3 by 50 at 1, and 1 to 3 by 30 at 2; 3 to 6 by 40 at 5, and 3 to 5 by 5
        OathDiary deep = values(0, 80, 55, 90, 45, -10, 0);
        deep.set(0, 5);
        deep.thin(1);
        dueText("both halves", "1111011", kept(deep));
        // 2 and 3 are alike, 40 off; 0 to 2 errs by 10 at 1; 2 to 5 errs most at 4, and 2 to 4 by 5
        OathDiary near = values(0, 30, 40, 40, 30, 0);
        near.set(0, 9);
        near.thin(1);
        dueText("nothing more behind points next to each other", "111011", kept(near));
        sentence("2, few: the fewest points are kept so that each two kept points that follow one another can be joined;");
        // 0 reaches 3, from where 5 errs by 10 at 4; but from 2 it errs by 20/3 at 3 and 4
        OathDiary few = values(0, 10, 20, 20, 0, 0);
        few.set(0, 9);
        due("far keeps more", 4, few.thin(0));
        due("few", 3, few.thin(2));
        dueText("by a nearer second point", "101001", kept(few));
        sentence("of several such choices the one in which the second kept point is the latest, then the third one, and so on.");
        // the other choice is 0, 1, 4, 5: its third one is later, but the second one counts first
        OathDiary second = values(0, 10, 20, 10, 20, 35);
        second.set(0, 9);
        second.thin(2);
        dueText("the second one ahead of the third one", "101101", kept(second));
        // by steps each point reaches the third one behind it; from 0 to 7 there are six ways with two points between
        OathDiary steps = values(0, 5, 10, 15, 20, 25, 30, 35);
        steps.set(2, 1);
        steps.thin(2);
        dueText("the latest second one, and the latest third one", "10010011", kept(steps));
        OathDiary ten = values(0, 5, 10, 15, 20, 25, 30, 35, 40, 45, 50);
        ten.set(2, 1);
        ten.thin(2);
        dueText("and the latest fourth one", "10010010011", kept(ten));
    }

    private static void settings() {
        sentence("0: the oath, 0 to 500, at first 10; 1: the longest time without a gap, 1 to 2000, at first 100; 2: how readings are made, 0 or 1, at first 0.");
        OathDiary x = new OathDiary();
        due("the oath at first", 10, x.setting(0));
        due("the longest time at first", 100, x.setting(1));
        due("how readings are made at first", 0, x.setting(2));
        refusedOutside(0, 500, x, ARGUMENT, value -> x.set(0, value));
        refusedOutside(1, 2000, x, ARGUMENT, value -> x.set(1, value));
        refusedOutside(0, 1, x, ARGUMENT, value -> x.set(2, value));
        sentence("(If settings change, points stay kept or dropped as they are.)");
        OathDiary y = values(0, 9, 0, 0, 0);
        y.drop(1);
        for (int[] change : new int[][] {{0, 0}, {0, 500}, {1, 1}, {1, 2000}, {2, 1}, {2, 0}}) {
            y.set(change[0], change[1]);
            dueText("setting " + change[0] + " as " + change[1], "10111", kept(y));
        }
    }

    private static void heir() {
        sentence("The heir has at most 8 notes, each with a time and a value.");
        OathDiary x = new OathDiary();
        for (int i = 0; i < 8; i++) {
            due("note " + i, i, x.note(9999 - i, i - 999));
        }
        refused("the 9th", x, STATE, () -> x.note(0, 0));
        dueText("in their order", "9999:-999 9998:-998 9997:-997 9996:-996 9995:-995 9994:-994 9993:-993 9992:-992", notes(x));
        sentence("A note is true if there is a reading at its time, and the size of the difference of its value and this reading is at most setting 0.");
        noteIs(1, 10, 15);
        noteIs(0, 10, 16);
        noteIs(1, 10, -5);
        noteIs(0, 10, -6);
        noteIs(1, 15, 17);
        noteIs(0, 15, 18);
        noteIs(1, 15, -2);
        noteIs(0, 15, -3);
        noteIs(1, 0, 10);
        noteIs(0, 0, 11);
        noteIs(1, 200, -1);
        noteIs(0, 201, -1);
        noteIs(0, 21, 10);
        OathDiary strict = diary(0, 0, 10, 5);
        strict.set(0, 0);
        strict.note(2, 1);
        strict.note(5, 2);
        strict.note(5, 3);
        due("with the oath 0, on the line", 1, strict.noteAt(0, 2));
        due("with the oath 0, below 5/2", 0, strict.noteAt(1, 2));
        due("with the oath 0, above 5/2", 0, strict.noteAt(2, 2));
    }

    /** The reading at 10 is 5, at 15 it is 15/2. */
    private static void noteIs(int want, int time, int value) {
        OathDiary x = diary(0, 0, 10, 5, 20, 10, 200, 0);
        x.drop(1);
        x.note(time, value);
        due("a note at " + time + " of " + value, want, x.noteAt(0, 2));
    }

    private static void errorAt(String text, int want) {
        due(text, want, written(text).firstError());
    }

    private static void texts() {
        sentence("The buffer has at most 60 characters.");
        OathDiary x = written("0".repeat(60));
        refused("the 61st", x, STATE, () -> x.append('0'));
        sentence("one or more points separated by \",\"");
        refused("no point", new OathDiary(), ARGUMENT, () -> new OathDiary().addAll());
        due("one", 1, written("1:1").addAll());
        due("two", 2, written("1:1,2:2").addAll());
        errorAt(",1:1", 0);
        errorAt("1:1,,2:2", 4);
        errorAt("1:1.2:2", 3);
        sentence("a time, 0 to 9999, then \":\", possibly \"-\", and a number, 0 to 999");
        errorAt("9999:999", 8);
        errorAt("10000:0", 4);
        errorAt("0:1000", 5);
        errorAt("0:-1000", 6);
        errorAt("-1:0", 0);
        errorAt("1-", 1);
        errorAt("1;1", 1);
        errorAt("1::1", 2);
        errorAt("1:--1", 3);
        errorAt("1:+1", 2);
        errorAt("1:1-", 3);
        errorAt("1:-,", 3);
        errorAt("1:,", 2);
        sentence("(the value, less than 0 with \"-\"; \"-0\" is 0)");
        OathDiary minus = written("1:-999,2:-0,3:-1,4:0");
        minus.addAll();
        dueText("values", "1:-999+ 2:0+ 3:-1+ 4:0+", points(minus));
        sentence("Numbers are without leading zeros.");
        errorAt("00", 1);
        errorAt("01", 1);
        errorAt("0:00", 3);
        errorAt("0:01", 3);
        errorAt("0:-00", 4);
        errorAt("0:-01", 4);
        errorAt("0:0,00", 5);
        errorAt("0:0,0", 5);
        errorAt("1000:100", 8);
        sentence("a character is a syntax error if no row of points, of any length, begins with the characters before it and this character.");
        String long59 = "0:0,".repeat(14) + "0:0";
        due("a row of 59 characters", 59, long59.length());
        errorAt(long59, 59);
        errorAt(long59 + ",", 60);
        errorAt(long59 + "0", 59);
        for (int code = 33; code <= 126; code++) {
            boolean digit = code >= '0' && code <= '9';
            errorAt("" + (char) code, digit ? 1 : 0);
            errorAt("1" + (char) code, digit || code == ':' ? 2 : 1);
            errorAt("1:" + (char) code, digit || code == '-' ? 3 : 2);
            errorAt("1:-" + (char) code, digit ? 4 : 3);
            errorAt("1:1" + (char) code, digit || code == ',' ? 4 : 3);
            errorAt("1:0" + (char) code, code == ',' ? 4 : 3);
            errorAt("1:1," + (char) code, digit ? 5 : 4);
            errorAt("0" + (char) code, code == ':' ? 2 : 1);
        }
        sentence("(The order of the times does not matter here.)");
        errorAt("9:0,5:0,5:0,0:0", 15);
        OathDiary order = written("9:0,5:1,7:2");
        order.addAll();
        dueText("in the order of time", "5:1+ 7:2+ 9:0+", points(order));
    }

    private static void undo() {
        sentence("Each method that is marked \"undoable\" and does not throw an exception saves the state from before it (also if it changes nothing)");
        OathDiary x = diary(0, 0, 10, 5, 20, 0);
        undoable(x, () -> x.add(30, 0));
        undoable(x, () -> x.correct(1, 6));
        undoable(x, () -> x.correct(1, 5));
        undoable(x, () -> x.drop(1));
        x.drop(1);
        undoable(x, () -> x.keep(1));
        undoable(x, () -> x.mend());
        undoable(x, () -> x.thin(2));
        undoable(x, () -> x.tear(0));
        undoable(x, () -> x.set(2, 1));
        undoable(x, () -> x.set(2, 0));
        undoable(x, () -> x.note(10, 0));
        undoable(x, () -> x.strike());
        x.note(10, 0);
        undoable(x, () -> x.strike());
        undoable(x, () -> addAll(x, "40:0,5:5"));
        OathDiary empty = new OathDiary();
        undoable(empty, () -> empty.mend());
        undoable(empty, () -> empty.strike());
        undoable(empty, () -> empty.thin(0));
        OathDiary quiet = values(0, 5, 0);
        for (Call call : new Call[] {() -> quiet.append('7'), () -> quiet.firstError(), () -> quiet.clearBuffer()}) {
            call.answer();
            due("saved by what is not marked", 3, quiet.count(10));
        }
        sentence("all but the buffer and the saved states.");
        OathDiary buffer = values(0, 0);
        write(buffer, "12");
        buffer.undo();
        due("the buffer stays", 2, buffer.clearBuffer());
        write(buffer, "5:5");
        buffer.addAll();
        write(buffer, "7");
        buffer.undo();
        due("it is not brought back", 1, buffer.clearBuffer());
        everything();
        sentence("At most 6 states are saved; the oldest one is dropped first.");
        saved();
    }

    private static int addAll(OathDiary x, String text) {
        write(x, text);
        return x.addAll();
    }

    /** Undo brings back points, stretches, what is kept, notes, settings, and how much was thinned and torn. */
    private static void everything() {
        OathDiary gaps = diary(0, 0, 50, 60, 100, 0);
        gaps.set(1, 49);
        due("three stretches", 2, gaps.point(2, 4));
        due("each point alone", 3, gaps.ifThinned(2));
        gaps.undo();
        due("one stretch", 0, gaps.point(2, 4));
        due("no stretch 1", 1, gaps.count(3));
        gaps.correct(1, 0);
        due("on a line", 2, gaps.ifThinned(2));
        gaps.undo();
        due("not on a line", 3, gaps.ifThinned(2));
        OathDiary heir = values(0, 0);
        heir.note(1, 0);
        heir.note(2, 99);
        heir.note(3, 98);
        heir.strike();
        dueText("left", "2:99 3:98", notes(heir));
        heir.undo();
        dueText("all notes", "1:0 2:99 3:98", notes(heir));
        OathDiary x = diary(0, 1, 10, 2, 20, 3, 500, 4);
        x.thin(0);
        x.note(5, 6);
        x.note(7, 8);
        x.set(2, 1);
        x.tear(1);
        x.thin(1);
        x.strike();
        x.undo();
        dueText("notes", "5:6 7:8", notes(x));
        due("thinned", 2, x.count(7));
        x.undo();
        due("thinned before", 1, x.count(7));
        due("torn", 1, x.count(8));
        x.undo();
        due("torn before", 0, x.count(8));
        dueText("points", "0:1+ 10:2- 20:3+ 500:4+", points(x));
        due("stretches", 2, x.count(3));
        x.undo();
        due("setting 2", 0, x.setting(2));
        x.undo();
        dueText("notes before", "5:6", notes(x));
        due("still thinned", 1, x.count(7));
    }

    private static void saved() {
        OathDiary x = new OathDiary();
        for (int i = 1; i <= 8; i++) {
            x.set(0, i);
            due("saved", Math.min(i, 6), x.count(10));
        }
        for (int i = 7; i >= 5; i--) {
            due("left", i - 2, x.undo());
            due("the oath", i, x.setting(0));
        }
        for (int i = 100; i < 105; i++) {
            x.set(0, i);
        }
        due("saved again", 6, x.count(10));
        int[] want = {103, 102, 101, 100, 5, 4};
        for (int i = 0; i < 6; i++) {
            due("left", 5 - i, x.undo());
            due("the oath", want[i], x.setting(0));
        }
        refused("none is left", x, STATE, () -> x.undo());
    }

    private static void refusedCalls(OathDiary x) {
        refused("add", x, ARGUMENT, () -> x.add(10000, 0));
        refused("add", x, STATE, () -> x.add(10, 0));
        refused("correct", x, INDEX, () -> x.correct(7, 0));
        refused("correct", x, ARGUMENT, () -> x.correct(1, 1000));
        refused("drop", x, INDEX, () -> x.drop(7));
        refused("drop", x, STATE, () -> x.drop(0));
        refused("keep", x, INDEX, () -> x.keep(-1));
        refused("keep", x, STATE, () -> x.keep(0));
        refused("thin", x, ARGUMENT, () -> x.thin(3));
        refused("tear", x, INDEX, () -> x.tear(2));
        refused("set", x, INDEX, () -> x.set(3, 0));
        refused("set", x, ARGUMENT, () -> x.set(2, 2));
        refused("note", x, ARGUMENT, () -> x.note(0, 1000));
        refused("append", x, ARGUMENT, () -> x.append(32));
        refused("addAll", x, ARGUMENT, () -> x.addAll());
        x.append(':');
        x.append('0');
        refused("addAll", x, STATE, () -> x.addAll());
    }

    private static void exceptions() {
        sentence("A call that throws an exception changes nothing.");
        OathDiary tried = busy();
        OathDiary twin = busy();
        refusedCalls(tried);
        due("the buffer", 9, tried.clearBuffer());
        twin.clearBuffer();
        for (int i = 0; i < 6; i++) {
            due("the state", twin.digest(), tried.digest());
            due("undo", twin.undo(), tried.undo());
        }
        due("the first state", twin.digest(), tried.digest());
        refused("none is left", tried, STATE, () -> tried.undo());
        sentence("If several exceptions apply, the one that is named first in the throws clause is thrown.");
        OathDiary x = full();
        refused("add: range, then room and time", x, ARGUMENT, () -> x.add(0, 1000));
        refused("correct: point, then value", x, INDEX, () -> x.correct(60, 1000));
        refused("set: setting, then value", x, INDEX, () -> x.set(3, -1));
        refused("point: point, then what", x, INDEX, () -> x.point(60, 8));
        refused("error: point, then what", x, INDEX, () -> x.error(60, 2));
        refused("stretch: stretch, then what", x, INDEX, () -> x.stretch(1, 5));
        refused("noteAt: note, then what", x, INDEX, () -> x.noteAt(0, 3));
        refused("join: no such one, then order", x, INDEX, () -> x.join(60, 0));
        refused("join: no such other, then order", x, INDEX, () -> x.join(0, -1));
        for (int i = 0; i < 8; i++) {
            x.note(0, 0);
        }
        refused("note: range, then room", x, ARGUMENT, () -> x.note(-1, 0));
        write(x, "0:1,");
        refused("addAll: text, then room and time", x, ARGUMENT, () -> x.addAll());
        write(x, "0".repeat(56));
        refused("append: code, then room", x, ARGUMENT, () -> x.append(127));
    }

    public static void main(String[] args) {
        calls();
        constants();
        points();
        gaps();
        fractions();
        readings();
        errors();
        joins();
        thinning();
        ways();
        settings();
        heir();
        texts();
        undo();
        exceptions();
        end();
    }
}
