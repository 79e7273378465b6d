/** For each sentence of the promises 1 to 16 that names an edge, a test of its own. */
public final class EdgesOfChangesTest extends Checks {
    private static void newObject() {
        section("Promise 1: A new object");
        sentence("Creates an empty diary, with an empty buffer.");
        OathDiary other = busy();
        OathDiary x = new OathDiary();
        for (int what = 0; what <= 10; what++) {
            due("count(" + what + ")", 0, x.count(what));
        }
        due("the oath", 10, x.setting(0));
        due("the longest time", 100, x.setting(1));
        due("how readings are made", 0, x.setting(2));
        due("no syntax error", 0, x.firstError());
        due("the length of the buffer", 0, x.clearBuffer());
        due("what another one holds", 7, other.count(0));
        due("and its buffer", 7, other.clearBuffer());
    }

    private static void add() {
        section("Promise 2: add");
        sentence("Adds a point, which is kept.");
        dueText("one", "5:6+", points(diary(5, 6)));
        sentence("Undoable.");
        OathDiary x = values(0, 0, 0);
        undoable(x, () -> x.add(5, 5));
        OathDiary full = full();
        full.tear(0);
        undoable(full, () -> full.add(5, 5));
        sentence("- `time`: 0 to 9999");
        refusedOutside(0, 9999, x, ARGUMENT, time -> x.add(time, 0));
        due("the greatest", 3, x.add(9999, 0));
        due("the least", 0, diary(1, 0).add(0, 0));
        sentence("- `value`: -999 to 999");
        refusedOutside(-999, 999, x, ARGUMENT, value -> x.add(5, value));
        dueText("the least and the greatest", "1:-999+ 2:999+", points(diary(1, -999, 2, 999)));
        sentence("Returns the number of the point (points with later times have greater numbers by 1 then).");
        OathDiary y = diary(100, 1);
        due("ahead of the first one", 0, y.add(98, 2));
        due("behind the last one", 2, y.add(101, 3));
        due("between", 1, y.add(99, 4));
        dueText("those behind it have moved", "98:2+ 99:4+ 100:1+ 101:3+", points(y));
        OathDiary dropped = values(0, 7, 0);
        dropped.drop(1);
        dropped.add(5, 0);
        dueText("dropped ones move, too", "0:0+ 5:0+ 10:7- 20:0+", points(dropped));
        addRefused();
    }

    private static void addRefused() {
        sentence("Throws `IllegalArgumentException` if an argument is out of range");
        OathDiary x = values(0, 7, 0);
        refused("both", x, ARGUMENT, () -> x.add(-1, 1000));
        refused("the time alone", x, ARGUMENT, () -> x.add(10000, 999));
        refused("the value alone", x, ARGUMENT, () -> x.add(9999, -1000));
        sentence("Throws `IllegalStateException` if there are 60 points, or one with this time");
        refused("the first time", x, STATE, () -> x.add(0, 1));
        refused("the last time", x, STATE, () -> x.add(20, 1));
        x.drop(1);
        refused("the time of a dropped point", x, STATE, () -> x.add(10, 1));
        OathDiary full = full();
        refused("60 points, ahead", full, STATE, () -> full.add(1, 0));
        refused("60 points, behind", full, STATE, () -> full.add(9999, 0));
        refused("60 points, and its time", full, STATE, () -> full.add(590, 0));
        full.undo();
        due("59 points", 59, full.add(9999, 0));
        refused("60 again", full, STATE, () -> full.add(590, 0));
    }

    private static void correct() {
        section("Promise 3: correct");
        sentence("Corrects the value of a point; it stays kept or dropped.");
        OathDiary x = values(0, 7, 0);
        x.drop(1);
        x.correct(0, 1);
        x.correct(1, 500);
        x.correct(2, -2);
        dueText("the first, a dropped, and the last one", "0:1+ 10:500- 20:-2+", points(x));
        sentence("Undoable.");
        undoable(x, () -> x.correct(1, 3));
        undoable(x, () -> x.correct(1, 500));
        sentence("- `point`: its number");
        OathDiary full = full();
        due("the last one of 60", 0, full.correct(59, 9));
        due("the first one of 60", 0, full.correct(0, 8));
        due("the first value", 8, full.point(0, 1));
        due("the last value", 9, full.point(59, 1));
        sentence("- `value`: -999 to 999");
        x.correct(0, -999);
        x.correct(2, 999);
        dueText("the least and the greatest", "0:-999+ 10:500- 20:999+", points(x));
        sentence("Returns the previous value.");
        due("-999", -999, x.correct(0, 0));
        due("999", 999, x.correct(2, 0));
        due("of a dropped one", 500, x.correct(1, 500));
        sentence("Throws `IndexOutOfBoundsException` if there is no such point");
        refusedOutside(0, 2, x, INDEX, point -> x.correct(point, 0));
        refusedOutside(0, 59, full, INDEX, point -> full.correct(point, 0));
        OathDiary empty = new OathDiary();
        refused("an empty diary", empty, INDEX, () -> empty.correct(0, 0));
        sentence("Throws `IllegalArgumentException` if value is out of range");
        refusedOutside(-999, 999, x, ARGUMENT, value -> x.correct(1, value));
    }

    private static void drop() {
        section("Promise 4: drop");
        sentence("Drops a kept point.");
        OathDiary x = values(0, 10, 0, 31, 0);
        x.drop(1);
        dueText("with the error 10", "0:0+ 10:10- 20:0+ 30:31+ 40:0+", points(x));
        sentence("Undoable.");
        OathDiary y = values(0, 10, 0);
        undoable(y, () -> y.drop(1));
        sentence("- `point`: its number");
        due("the last number that can be dropped", 59, full().drop(58));
        due("the first number that can be dropped", 59, full().drop(1));
        sentence("Returns how many points are kept then.");
        OathDiary full = full();
        for (int i = 1; i <= 58; i++) {
            due("without point " + i, 60 - i, full.drop(i));
        }
        sentence("Throws `IndexOutOfBoundsException` if there is no such point");
        refusedOutside(0, 4, x, INDEX, point -> x.drop(point));
        OathDiary empty = new OathDiary();
        refused("an empty diary", empty, INDEX, () -> empty.drop(0));
        sentence("Throws `IllegalStateException` if there is a reason against it (see whyNot)");
        refused("1, it is dropped", x, STATE, () -> x.drop(1));
        refused("2, none ahead", x, STATE, () -> x.drop(0));
        refused("2, none behind", x, STATE, () -> x.drop(4));
        refused("3, its own error", x, STATE, () -> x.drop(3));
        refused("3, the error of a dropped one", x, STATE, () -> x.drop(2));
        OathDiary one = diary(5, 5);
        refused("2, none at all", one, STATE, () -> one.drop(0));
        refused("the last but one of 60", full, STATE, () -> full.drop(0));
    }

    private static void keep() {
        section("Promise 5: keep");
        sentence("Keeps a dropped point again.");
        OathDiary x = values(0, 7, 7, 0);
        x.drop(1);
        x.keep(1);
        dueText("as it was", "0:0+ 10:7+ 20:7+ 30:0+", points(x));
        sentence("Undoable.");
        OathDiary y = values(0, 7, 0);
        y.drop(1);
        undoable(y, () -> y.keep(1));
        sentence("- `point`: its number");
        OathDiary ends = droppedAtBothEnds();
        due("the first", 3, ends.keep(0));
        due("the last", 4, ends.keep(3));
        sentence("Returns how many points are kept then.");
        due("the only one", 1, allDropped().keep(0));
        OathDiary full = full();
        full.thin(0);
        for (int i = 1; i <= 58; i++) {
            due("with point " + i, 2 + i, full.keep(i));
        }
        sentence("Throws `IndexOutOfBoundsException` if there is no such point");
        refusedOutside(0, 3, x, INDEX, point -> x.keep(point));
        OathDiary empty = new OathDiary();
        refused("an empty diary", empty, INDEX, () -> empty.keep(0));
        sentence("Throws `IllegalStateException` if it is kept");
        refused("the first", x, STATE, () -> x.keep(0));
        refused("kept again", x, STATE, () -> x.keep(1));
        refused("the last", x, STATE, () -> x.keep(3));
    }

    private static void mend() {
        section("Promise 6: mend");
        sentence("Keeps all points that are broken, and, as long as there are broken ones then, these, too.");
        // without point 1, 2 would be 5 off; but both are broken at first
        OathDiary both = values(0, 0, 0, 0);
        both.thin(2);
        both.correct(1, 20);
        both.correct(2, 15);
        due("both", 2, both.mend());
        // 4 is broken; with it 2 and 3 are; with these 1 is
        OathDiary rounds = values(0, 8, -10, 10, 0, 0);
        rounds.thin(2);
        dueText("thinned", "100001", kept(rounds));
        rounds.correct(4, 60);
        due("broken", 1, rounds.count(2));
        due("in three rounds", 4, rounds.mend());
        dueText("mended", "111111", kept(rounds));
        OathDiary exact = values(0, 10, -10, 0);
        exact.thin(2);
        due("as far as the oath", 0, exact.mend());
        exact.set(0, 9);
        due("farther", 2, exact.mend());
        sentence("Undoable.");
        undoable(exact, () -> exact.mend());
        rounds.undo();
        undoable(rounds, () -> rounds.mend());
        sentence("Returns how many points are kept then that were not kept before.");
        due("an empty diary", 0, new OathDiary().mend());
        due("nothing is dropped", 0, full().mend());
        due("the only one", 1, allDropped().mend());
        due("the first and the last", 2, droppedAtBothEnds().mend());
        OathDiary all = full();
        all.thin(0);
        due("58 within the oath", 0, all.mend());
        all.set(1, 9);
        due("58 without a reading", 58, all.mend());
        due("once more", 0, all.mend());
    }

    private static void thin() {
        section("Promise 7: thin");
        sentence("Thins the diary.");
        OathDiary x = values(0, 7, 0);
        x.thin(0);
        dueText("the middle", "101", kept(x));
        sentence("Undoable.");
        for (int way = 0; way <= 2; way++) {
            int given = way;
            OathDiary y = values(0, 7, 0);
            undoable(y, () -> y.thin(given));
            y.thin(way);
            undoable(y, () -> y.thin(given));
            OathDiary empty = new OathDiary();
            undoable(empty, () -> empty.thin(given));
        }
        sentence("- `way`: 0 to 2");
        String[] want = {"1011111", "1111111", "1100111"};
        for (int way = 0; way <= 2; way++) {
            OathDiary unlike = values(0, 10, 10, -10, -10, 10, 0);
            unlike.set(0, 9);
            unlike.thin(way);
            dueText("way " + way, want[way], kept(unlike));
        }
        sentence("Returns how many points are kept then.");
        for (int way = 0; way <= 2; way++) {
            due("none", 0, new OathDiary().thin(way));
            due("one", 1, diary(3, 3).thin(way));
            due("60 in one stretch", 2, full().thin(way));
            OathDiary apart = full();
            apart.set(1, 9);
            due("60 stretches", 60, apart.thin(way));
        }
        sentence("Throws `IllegalArgumentException` if way is out of range");
        refusedOutside(0, 2, x, ARGUMENT, way -> x.thin(way));
        OathDiary empty = new OathDiary();
        refusedOutside(0, 2, empty, ARGUMENT, way -> empty.thin(way));
    }

    /** Stretches of one, two, and three points. */
    private static OathDiary threeStretches() {
        OathDiary x = diary(0, 1, 500, 2, 510, 3, 900, 4, 910, 5, 920, 6);
        x.drop(4);
        return x;
    }

    private static void tear() {
        section("Promise 8: tear");
        sentence("Tears the points of a stretch out of the diary; the points behind it get lower numbers.");
        OathDiary x = threeStretches();
        x.tear(0);
        dueText("the first", "500:2+ 510:3+ 900:4+ 910:5- 920:6+", points(x));
        due("the stretches behind it, too", 1, x.point(4, 4));
        x.undo();
        x.tear(1);
        dueText("the middle one", "0:1+ 900:4+ 910:5- 920:6+", points(x));
        x.undo();
        x.tear(2);
        dueText("the last", "0:1+ 500:2+ 510:3+", points(x));
        x.tear(0);
        x.tear(0);
        dueText("all", "", points(x));
        due("no stretch is left", 0, x.count(3));
        due("torn", 6, x.count(8));
        sentence("Undoable.");
        OathDiary y = threeStretches();
        undoable(y, () -> y.tear(1));
        OathDiary full = full();
        undoable(full, () -> full.tear(0));
        sentence("- `stretch`: its number");
        OathDiary apart = full();
        apart.set(1, 9);
        due("the last one of 60", 1, apart.tear(59));
        due("the first one of 59", 1, apart.tear(0));
        dueText("the ends then", "10 580", apart.point(0, 0) + " " + apart.point(57, 0));
        sentence("Returns how many points it had.");
        due("60", 60, full().tear(0));
        due("1", 1, y.tear(0));
        due("3, one of them dropped", 3, y.tear(1));
        due("1, which is dropped", 1, allDropped().tear(0));
        sentence("Throws `IndexOutOfBoundsException` if there is no such stretch");
        refusedOutside(0, 57, apart, INDEX, stretch -> apart.tear(stretch));
        refusedOutside(0, 0, y, INDEX, stretch -> y.tear(stretch));
        OathDiary empty = new OathDiary();
        refused("an empty diary", empty, INDEX, () -> empty.tear(0));
    }

    private static void set() {
        section("Promise 9: set");
        sentence("Changes a setting.");
        OathDiary x = new OathDiary();
        x.set(1, 7);
        dueText("and no other one", "10 7 0", x.setting(0) + " " + x.setting(1) + " " + x.setting(2));
        sentence("Undoable.");
        for (int setting = 0; setting <= 2; setting++) {
            int given = setting;
            undoable(x, () -> x.set(given, 1));
            undoable(x, () -> x.set(given, x.setting(given)));
        }
        sentence("- `setting`: 0 to 2");
        sentence("- `value`: the new value");
        int[][] ranges = {{0, 500}, {1, 2000}, {0, 1}};
        for (int setting = 0; setting <= 2; setting++) {
            x.set(setting, ranges[setting][0]);
            due("the least of setting " + setting, ranges[setting][0], x.setting(setting));
            x.set(setting, ranges[setting][1]);
            due("the greatest of setting " + setting, ranges[setting][1], x.setting(setting));
        }
        sentence("Returns the previous value.");
        due("the oath", 500, x.set(0, 0));
        due("the longest time", 2000, x.set(1, 1));
        due("how readings are made", 1, x.set(2, 1));
        due("also if it stays", 1, x.set(2, 1));
        sentence("Throws `IndexOutOfBoundsException` if there is no such setting");
        refusedOutside(0, 2, x, INDEX, setting -> x.set(setting, 1));
        refusedOutside(0, 2, x, INDEX, setting -> x.set(setting, 5000));
        sentence("Throws `IllegalArgumentException` if value is out of range");
        refusedOutside(0, 500, x, ARGUMENT, value -> x.set(0, value));
        refusedOutside(1, 2000, x, ARGUMENT, value -> x.set(1, value));
        refusedOutside(0, 1, x, ARGUMENT, value -> x.set(2, value));
    }

    private static void note() {
        section("Promise 10: note");
        sentence("Adds a note of the heir, behind the others.");
        OathDiary x = new OathDiary();
        x.note(9, 1);
        x.note(5, 2);
        x.note(5, 2);
        dueText("by no order of time", "9:1 5:2 5:2", notes(x));
        sentence("Undoable.");
        undoable(x, () -> x.note(0, 0));
        sentence("- `time`: 0 to 9999");
        refusedOutside(0, 9999, x, ARGUMENT, time -> x.note(time, 0));
        sentence("- `value`: -999 to 999");
        refusedOutside(-999, 999, x, ARGUMENT, value -> x.note(0, value));
        sentence("Returns its number, from 0.");
        due("the least ones", 3, x.note(0, -999));
        due("the greatest ones", 4, x.note(9999, 999));
        dueText("as they are", "9:1 5:2 5:2 0:-999 9999:999", notes(x));
        for (int i = 0; i < 8; i++) {
            due("note " + i, i, i < 5 ? i : x.note(7, 7));
        }
        sentence("Throws `IllegalArgumentException` if an argument is out of range");
        refused("the time, with 8 notes", x, ARGUMENT, () -> x.note(10000, 0));
        refused("the value, with 8 notes", x, ARGUMENT, () -> x.note(0, -1000));
        sentence("Throws `IllegalStateException` if there are 8 notes");
        refused("the 9th", x, STATE, () -> x.note(7, 7));
        x.undo();
        due("room again", 7, x.note(8, 8));
        refused("and no more", x, STATE, () -> x.note(7, 7));
    }

    private static void strike() {
        section("Promise 11: strike");
        sentence("Strikes out all notes that are true; the others stay in their order.");
        OathDiary x = values(0, 0);
        int[] noted = {10, 11, 12, -10, 0, -11, -12, 5};
        for (int i = 0; i < 8; i++) {
            x.note(i, noted[i]);
        }
        x.strike();
        dueText("the others", "1:11 2:12 5:-11 6:-12", notes(x));
        sentence("Undoable.");
        x.undo();
        due("undone", 8, x.count(4));
        undoable(x, () -> x.strike());
        x.strike();
        undoable(x, () -> x.strike());
        sentence("Returns how many are left.");
        due("none is true", 4, x.strike());
        x.set(0, 500);
        due("all are true", 0, x.strike());
        due("there is none", 0, x.strike());
        due("an empty diary", 0, new OathDiary().strike());
        OathDiary without = new OathDiary();
        without.note(0, 0);
        due("without a reading", 1, without.strike());
        due("there is room again", 0, x.note(1, 1));
    }

    private static void append() {
        section("Promise 12: append");
        sentence("Appends a character to the buffer.");
        OathDiary x = written("1:1");
        x.append(',');
        dueText("behind the others", "" + hash(valuesOf(x, "1:1,")), "" + x.digest());
        due("nothing is saved", 0, x.count(10));
        sentence("- `code`: the character code, 33 to 126");
        due("the least", 5, x.append(33));
        due("the greatest", 6, x.append(126));
        sentence("Returns the new length of the buffer.");
        OathDiary y = new OathDiary();
        for (int i = 1; i <= 60; i++) {
            due("the length", i, y.append('9'));
        }
        sentence("Throws `IllegalArgumentException` if code is not 33 to 126");
        refusedOutside(33, 126, x, ARGUMENT, code -> x.append(code));
        refusedOutside(33, 126, y, ARGUMENT, code -> y.append(code));
        sentence("Throws `IllegalStateException` if the buffer has 60 characters");
        refused("the least", y, STATE, () -> y.append(33));
        refused("the greatest", y, STATE, () -> y.append(126));
        y.clearBuffer();
        due("room again", 1, y.append(126));
    }

    private static void clearBuffer() {
        section("Promise 13: clearBuffer");
        sentence("Clears the buffer.");
        OathDiary x = written("12");
        x.clearBuffer();
        due("the next character is the first", 1, x.append(':'));
        due("and is asked first", 0, x.firstError());
        due("nothing is saved", 0, x.count(10));
        sentence("Returns the length that it had.");
        due("1", 1, x.clearBuffer());
        due("0", 0, x.clearBuffer());
        due("60", 60, written("7".repeat(60)).clearBuffer());
    }

    private static void firstError() {
        section("Promise 14: firstError");
        sentence("Finds the first syntax error of the buffer.");
        due("of three", 2, written("1:x:xx").firstError());
        due("what follows does not count", 0, written("x1:1").firstError());
        sentence("Returns the index of the first character that is a syntax error; the length of the buffer if there is none.");
        due("an empty buffer", 0, new OathDiary().firstError());
        due("the first character", 0, written(":").firstError());
        due("the last one of 60", 59, written("0:0,".repeat(14) + "0:0x").firstError());
        due("none of 60", 60, written("0:0,".repeat(15)).firstError());
        due("a complete row", 3, written("0:0").firstError());
        due("the beginning of one", 1, written("0").firstError());
        OathDiary x = written("0:0x");
        changesNothing("firstError", x, () -> x.firstError());
    }

    private static void addAll() {
        section("Promise 15: addAll");
        sentence("Adds the points in the buffer, one by one, all or none, and clears the buffer.");
        OathDiary x = diary(50, 5);
        write(x, "60:-6,9999:999,0:-999,40:4");
        due("points", 5, x.addAll());
        dueText("all", "0:-999+ 40:4+ 50:5+ 60:-6+ 9999:999+", points(x));
        due("cleared", 0, x.clearBuffer());
        write(x, "1:1,2:2,50:5");
        refused("none", x, STATE, () -> x.addAll());
        due("not cleared", 12, x.clearBuffer());
        OathDiary gap = diary(0, 0, 200, 0);
        due("two stretches", 2, gap.ifThinned(0));
        write(gap, "100:40");
        gap.addAll();
        due("one stretch", 1, gap.count(3));
        due("the point in the gap cannot be dropped", 3, gap.ifThinned(0));
        sentence("Undoable, as one call.");
        OathDiary y = values(0, 0);
        write(y, "30:3,20:2,40:4");
        y.addAll();
        due("saved once", 3, y.count(10));
        due("undone", 2, y.undo());
        dueText("as one call", "0:0+ 10:0+", points(y));
        sentence("Returns how many points there are then.");
        due("the first one", 1, written("0:0").addAll());
        OathDiary most = full();
        most.tear(0);
        for (int i = 0; i < 59; i++) {
            most.add(i, 0);
        }
        write(most, "9999:0");
        due("the 60th", 60, most.addAll());
        sentence("Throws `IllegalArgumentException` if the buffer is not a complete row of points");
        for (String text : new String[] {"", "1", "1:", "1:-", "1:1,", "1:1,2", "1:1,2:", "1:1,2:-", "1:1x", "x", "01:1", "1:1000", "10000:1"}) {
            OathDiary wrong = diary(7, 7);
            write(wrong, text);
            refused(text, wrong, ARGUMENT, () -> wrong.addAll());
            due(text + " stays", text.length(), wrong.clearBuffer());
        }
        addAllRefused();
    }

    private static void addAllRefused() {
        sentence("Throws `IllegalStateException` if there would be more than 60 points, or two with one time");
        OathDiary full = full();
        write(full, "9999:0");
        refused("the 61st", full, STATE, () -> full.addAll());
        full.undo();
        due("the 60th", 60, full.addAll());
        full.undo();
        write(full, "9998:0,9999:0");
        refused("the 60th and the 61st", full, STATE, () -> full.addAll());
        for (String text : new String[] {"0:1", "20:1", "10:1", "5:1,20:1", "0:1,5:1", "5:1,5:2", "5:1,6:1,5:1", "7:1,5:1,5:1"}) {
            OathDiary x = values(0, 0, 0);
            x.drop(1);
            write(x, text);
            refused(text, x, STATE, () -> x.addAll());
            due(text + " stays", text.length(), x.clearBuffer());
        }
    }

    private static void undo() {
        section("Promise 16: undo");
        sentence("Restores the latest saved state, and drops it.");
        OathDiary x = new OathDiary();
        x.set(0, 1);
        x.set(0, 2);
        x.undo();
        due("the latest", 1, x.setting(0));
        x.undo();
        due("and the one ahead of it", 10, x.setting(0));
        x.set(0, 3);
        x.undo();
        due("undone again", 10, x.setting(0));
        sentence("Returns how many saved states are left.");
        OathDiary full = full();
        for (int i = 5; i >= 0; i--) {
            due("left", i, full.undo());
        }
        due("what is older is lost", 54, full.count(0));
        sentence("Throws `IllegalStateException` if there is none");
        refused("none is left", full, STATE, () -> full.undo());
        OathDiary fresh = written("1");
        refused("a new object", fresh, STATE, () -> fresh.undo());
    }

    public static void main(String[] args) {
        newObject();
        add();
        correct();
        drop();
        keep();
        mend();
        thin();
        tear();
        set();
        note();
        strike();
        append();
        clearBuffer();
        firstError();
        addAll();
        undo();
        end();
    }
}
