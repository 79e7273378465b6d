import java.util.Arrays;

/** For each promise of the document: ordinary inputs, edges, and wrong inputs. */
public final class PromiseTest extends Checks {
    private static void newObject() {
        OathDiary x = new OathDiary();
        due("NONE", -1000000, NONE);
        for (int what = 0; what <= 10; what++) {
            due("1: count(" + what + ")", 0, x.count(what));
        }
        due("1: the oath", 10, x.setting(0));
        due("1: the longest time", 100, x.setting(1));
        due("1: the manner", 0, x.setting(2));
        due("1: the buffer", 0, x.clearBuffer());
        refused("1: no saved state", x, STATE, () -> x.undo());
    }

    private static void add() {
        OathDiary x = new OathDiary();
        due("2: the first point", 0, x.add(50, 5));
        due("2: a later point", 1, x.add(60, 6));
        due("2: an earlier point", 0, x.add(0, -999));
        due("2: a point between", 2, x.add(55, 999));
        due("2: the last time", 4, x.add(9999, 0));
        due("2: the later number is greater by 1", 60, x.point(3, 0));
        due("2: the value moves along", 6, x.point(3, 1));
        dueText("2: added points are kept", "11111", kept(x));
        due("2: undoable", 5, x.count(10));
        refused("2: time below 0", x, ARGUMENT, () -> x.add(-1, 0));
        refused("2: time above 9999", x, ARGUMENT, () -> x.add(10000, 0));
        refused("2: value below -999", x, ARGUMENT, () -> x.add(1, -1000));
        refused("2: value above 999", x, ARGUMENT, () -> x.add(1, 1000));
        refused("2: the time is taken", x, STATE, () -> x.add(55, 0));
        refused("2: taken, and value out of range", x, ARGUMENT, () -> x.add(55, 1000));
        OathDiary full = full();
        refused("2: 60 points", full, STATE, () -> full.add(5, 0));
        refused("2: 60 points, and out of range", full, ARGUMENT, () -> full.add(5, 1000));
        OathDiary dropped = diary(0, 0, 10, 0, 20, 0);
        dropped.drop(1);
        dropped.add(5, 0);
        dueText("2: dropped points stay dropped when they move", "1101", kept(dropped));
        refused("2: a dropped point has its time, too", dropped, STATE, () -> dropped.add(10, 0));
        OathDiary bridge = diary(0, 0, 200, 0);
        due("2: two stretches", 2, bridge.count(3));
        bridge.add(100, 0);
        due("2: a point bridges a gap", 1, bridge.count(3));
    }

    private static void correct() {
        OathDiary x = diary(0, 0, 10, 3, 20, 0);
        x.drop(1);
        due("3: the previous value", 3, x.correct(1, -999));
        due("3: the new value", -999, x.point(1, 1));
        dueText("3: it stays dropped", "101", kept(x));
        due("3: it is broken now", 1, x.point(1, 3));
        due("3: the same value", -999, x.correct(1, -999));
        due("3: undoable, if it changes nothing, too", 6, x.count(10));
        x.undo();
        x.undo();
        due("3: undone", 3, x.point(1, 1));
        due("3: a kept point", 0, x.correct(2, 999));
        due("3: what thinning keeps follows", 3, x.ifThinned(2));
        x.correct(2, 10);
        due("3: and again", 2, x.ifThinned(2));
        refused("3: no point", x, INDEX, () -> x.correct(3, 0));
        refused("3: point -1", x, INDEX, () -> x.correct(-1, 0));
        refused("3: value", x, ARGUMENT, () -> x.correct(0, 1000));
        refused("3: value below", x, ARGUMENT, () -> x.correct(0, -1000));
        refused("3: no point, and value", x, INDEX, () -> x.correct(3, 1000));
    }

    private static void drop() {
        OathDiary x = diary(0, 0, 10, 10, 20, 0, 30, 31, 40, 0);
        due("4: at the oath", 4, x.drop(1));
        dueText("4: dropped", "10111", kept(x));
        refused("4: dropped already", x, STATE, () -> x.drop(1));
        refused("4: the first point", x, STATE, () -> x.drop(0));
        refused("4: the last point", x, STATE, () -> x.drop(4));
        refused("4: beyond the oath", x, STATE, () -> x.drop(3));
        refused("4: a dropped neighbor would be broken", x, STATE, () -> x.drop(2));
        refused("4: no point", x, INDEX, () -> x.drop(5));
        refused("4: point -1", x, INDEX, () -> x.drop(-1));
        due("4: undoable", 6, x.count(10));
        x.undo();
        dueText("4: undone", "11111", kept(x));
    }

    private static void keep() {
        OathDiary x = diary(0, 0, 10, 5, 20, 0);
        x.drop(1);
        due("5: kept again", 3, x.keep(1));
        refused("5: it is kept", x, STATE, () -> x.keep(1));
        refused("5: no point", x, INDEX, () -> x.keep(3));
        refused("5: point -1", x, INDEX, () -> x.keep(-1));
        due("5: undoable", 5, x.count(10));
        x.undo();
        dueText("5: undone", "101", kept(x));
    }

    private static void mend() {
        OathDiary x = diary(0, 0, 10, 10, 20, 20, 30, 30, 40, 40);
        due("6: nothing is broken", 0, x.mend());
        due("6: undoable, if it changes nothing, too", 6, x.count(10));
        x.thin(2);
        dueText("6: thinned", "10001", kept(x));
        x.correct(2, 60);
        due("6: one is broken", 1, x.count(2));
        due("6: the others break when it is kept", 3, x.mend());
        dueText("6: mended", "11111", kept(x));
        x.undo();
        dueText("6: undone as one call", "10001", kept(x));
        OathDiary ends = diary(0, 0, 10, 0, 20, 0, 30, 0);
        ends.thin(0);
        ends.set(1, 9);
        due("6: points without a reading are broken", 2, ends.count(2));
        due("6: and are kept", 2, ends.mend());
        due("6: of an empty diary", 0, new OathDiary().mend());
        OathDiary first = droppedAtBothEnds();
        due("6: the first and the last point", 2, first.mend());
        dueText("6: they are kept", "1111", kept(first));
        OathDiary all = diary(0, 0, 10, 10, 20, 20, 30, 30, 40, 40);
        all.thin(2);
        all.correct(1, 30);
        all.correct(2, 29);
        due("6: only the first is broken", 1, all.count(2));
        due("6: of the others only what breaks then", 1, all.mend());
        dueText("6: so are kept", "11001", kept(all));
    }

    private static void thin() {
        // flat, a step by 10, flat: with the oath 0 only the corners are kept
        OathDiary x = diary(0, 0, 10, 0, 20, 0, 30, 10, 40, 10, 50, 10);
        x.set(0, 0);
        due("7: far", 4, x.thin(0));
        dueText("7: far keeps", "101101", kept(x));
        due("7: halves", 4, x.thin(1));
        dueText("7: halves keeps", "101101", kept(x));
        due("7: few", 4, x.thin(2));
        dueText("7: few keeps", "101101", kept(x));
        due("7: how often", 3, x.count(7));
        due("7: undoable", 6, x.count(10));
        x.undo();
        due("7: undone", 2, x.count(7));
        refused("7: way -1", x, ARGUMENT, () -> x.thin(-1));
        refused("7: way 3", x, ARGUMENT, () -> x.thin(3));
        ways();
        stretchesByThemselves();
        due("7: an empty diary", 0, new OathDiary().thin(1));
        OathDiary first = droppedAtBothEnds();
        dueText("7: the first point is dropped", "0110", kept(first));
        due("7: it is kept", 4, first.thin(0));
        dueText("7: they are kept", "1111", kept(first));
    }

    private static void ways() {
        // 0 to 4 errs by 10 at 2, 0 to 3 by 20/3, 0 to 2 by 10 at 1
        OathDiary x = diary(0, 0, 10, 10, 20, 0, 30, 10, 40, 20);
        x.set(0, 9);
        due("7: far reaches over what cannot be joined", 3, x.thin(0));
        dueText("7: far", "10011", kept(x));
        due("7: halves", 4, x.thin(1));
        dueText("7: halves keeps the worst", "11101", kept(x));
        due("7: few", 3, x.thin(2));
        dueText("7: few keeps the latest second point", "10011", kept(x));
        x.set(0, 10);
        due("7: all within the oath", 2, x.thin(1));
        // two errors alike: the point with the lowest number is kept
        OathDiary even = diary(0, 0, 10, 50, 20, 0, 30, 50, 40, 0);
        even.set(0, 49);
        even.thin(1);
        dueText("7: halves, two errors alike", "11001", kept(even));
        // far reaches 3, from where 5 errs by 10 at 4; from 2 it errs by 20/3
        OathDiary greedy = diary(0, 0, 10, 10, 20, 20, 30, 20, 40, 0, 50, 0);
        greedy.set(0, 9);
        due("7: far", 4, greedy.thin(0));
        dueText("7: far goes too far", "100111", kept(greedy));
        due("7: few", 3, greedy.thin(2));
        dueText("7: few does not", "101001", kept(greedy));
        OathDiary steps = diary(0, 0, 10, 5, 20, 10, 30, 15, 40, 20);
        steps.set(2, 1);
        due("7: few by steps", 3, steps.thin(2));
        dueText("7: by steps", "10011", kept(steps));
        steps.set(0, 4);
        due("7: far by steps beyond the oath", 5, steps.thin(0));
    }

    private static void stretchesByThemselves() {
        OathDiary x = diary(0, 0, 10, 0, 20, 0, 500, 7, 900, 0, 910, 0, 920, 0);
        due("7: three stretches", 5, x.thin(0));
        dueText("7: first and last point of each", "1011101", kept(x));
        x.keep(1);
        due("7: chosen anew", 5, x.thin(1));
        x.set(1, 480);
        due("7: one stretch, dropped points", 2, x.thin(2));
        dueText("7: one stretch", "1000001", kept(x));
        x.set(1, 100);
        due("7: kept again", 5, x.thin(2));
        dueText("7: kept again at the ends", "1011101", kept(x));
    }

    private static void tear() {
        OathDiary x = diary(0, 1, 10, 2, 500, 3, 510, 4, 520, 5, 900, 6);
        x.thin(0);
        due("8: its points", 3, x.tear(1));
        due("8: points left", 3, x.count(0));
        due("8: torn", 3, x.count(8));
        due("8: stretches", 2, x.count(3));
        due("8: lower numbers", 900, x.point(2, 0));
        due("8: the value, too", 6, x.point(2, 1));
        dueText("8: the kept ones", "111", kept(x));
        due("8: the last stretch", 1, x.tear(1));
        due("8: torn in all", 4, x.count(8));
        due("8: undo", 5, x.undo());
        due("8: torn after undo", 3, x.count(8));
        x.undo();
        dueText("8: undone", "111011", kept(x));
        refused("8: no stretch", x, INDEX, () -> x.tear(3));
        refused("8: stretch -1", x, INDEX, () -> x.tear(-1));
        OathDiary empty = new OathDiary();
        refused("8: an empty diary", empty, INDEX, () -> empty.tear(0));
        x.tear(0);
        x.tear(0);
        x.tear(0);
        due("8: all is torn", 0, x.count(0));
        OathDiary y = diary(0, 0, 10, 0, 20, 0, 300, 0, 310, 90, 320, 0);
        due("8: before", 5, y.ifThinned(2));
        y.tear(0);
        due("8: then", 3, y.ifThinned(2));
        due("8: and can be added again", 0, x.add(10, 0));
    }

    private static void set() {
        OathDiary x = new OathDiary();
        int[] least = {0, 1, 0};
        int[] greatest = {500, 2000, 1};
        int[] first = {10, 100, 0};
        for (int i = 0; i <= 2; i++) {
            int setting = i;
            due("9: the first value", first[i], x.set(i, least[i]));
            due("9: the least value", least[i], x.set(i, greatest[i]));
            due("9: the greatest value", greatest[i], x.setting(i));
            refused("9: below", x, ARGUMENT, () -> x.set(setting, least[setting] - 1));
            refused("9: above", x, ARGUMENT, () -> x.set(setting, greatest[setting] + 1));
        }
        due("9: undoable", 6, x.count(10));
        x.undo();
        due("9: undone", 0, x.setting(2));
        refused("9: setting -1", x, INDEX, () -> x.set(-1, 0));
        refused("9: setting 3", x, INDEX, () -> x.set(3, 0));
        refused("9: setting 3, and a value", x, INDEX, () -> x.set(3, 9999));
        OathDiary y = diary(0, 0, 10, 8, 20, 0, 30, 0);
        y.drop(1);
        y.set(0, 7);
        dueText("9: points stay dropped", "1011", kept(y));
        due("9: but are broken", 1, y.count(2));
        y.set(1, 9);
        due("9: gaps change", 4, y.count(3));
        y.set(1, 10);
        due("9: a time alike is no gap", 1, y.count(3));
    }

    private static void note() {
        OathDiary x = diary(0, 0, 10, 10);
        due("10: the first note", 0, x.note(9999, -999));
        due("10: the second", 1, x.note(0, 999));
        due("10: undoable", 4, x.count(10));
        refused("10: time", x, ARGUMENT, () -> x.note(10000, 0));
        refused("10: time below 0", x, ARGUMENT, () -> x.note(-1, 0));
        refused("10: value", x, ARGUMENT, () -> x.note(0, 1000));
        refused("10: value below", x, ARGUMENT, () -> x.note(0, -1000));
        for (int i = 2; i < 8; i++) {
            due("10: more notes", i, x.note(0, i));
        }
        refused("10: 8 notes", x, STATE, () -> x.note(0, 0));
        refused("10: 8 notes, and a value", x, ARGUMENT, () -> x.note(0, 1000));
        x.undo();
        due("10: undone", 7, x.count(4));
    }

    private static void strike() {
        OathDiary x = diary(0, 0, 10, 10);
        x.note(5, 100);
        x.note(5, 15);
        x.note(5, 16);
        x.note(5, -5);
        x.note(11, 10);
        due("11: those that are left", 3, x.strike());
        due("11: the first", 100, x.noteAt(0, 1));
        due("11: the second", 16, x.noteAt(1, 1));
        due("11: the third, without a reading", 11, x.noteAt(2, 0));
        due("11: again", 3, x.strike());
        x.undo();
        x.undo();
        due("11: undone", 5, x.count(4));
        due("11: undone, in order", 15, x.noteAt(1, 1));
        OathDiary y = diary(0, 0);
        y.note(0, -11);
        due("11: as far below the reading", 1, y.strike());
        due("11: without notes", 0, new OathDiary().strike());
    }

    private static void append() {
        OathDiary x = new OathDiary();
        due("12: the least code", 1, x.append(33));
        due("12: the greatest code", 2, x.append(126));
        due("12: nothing is saved", 0, x.count(10));
        refused("12: 32", x, ARGUMENT, () -> x.append(32));
        refused("12: 127", x, ARGUMENT, () -> x.append(127));
        for (int i = 3; i <= 60; i++) {
            due("12: the length", i, x.append('0'));
        }
        refused("12: 60 characters", x, STATE, () -> x.append('0'));
        refused("12: 60 characters, and a code", x, ARGUMENT, () -> x.append(127));
    }

    private static void clearBuffer() {
        OathDiary x = diary(0, 0);
        write(x, "123");
        due("13: the length", 3, x.clearBuffer());
        due("13: cleared", 0, x.clearBuffer());
        due("13: nothing is saved", 1, x.count(10));
        write(x, "12");
        x.undo();
        due("13: undo leaves the buffer", 2, x.clearBuffer());
    }

    private static void firstErrorOf(String text, int want) {
        OathDiary x = new OathDiary();
        write(x, text);
        due("14: " + text, want, x.firstError());
    }

    private static void firstError() {
        firstErrorOf("", 0);
        firstErrorOf("0", 1);
        firstErrorOf("00", 1);
        firstErrorOf("9999:-999", 9);
        firstErrorOf("99999", 4);
        firstErrorOf("1000:0", 6);
        firstErrorOf(":", 0);
        firstErrorOf("-", 0);
        firstErrorOf(",", 0);
        firstErrorOf("1,", 1);
        firstErrorOf("1-", 1);
        firstErrorOf("1::", 2);
        firstErrorOf("1:,", 2);
        firstErrorOf("1:-,", 3);
        firstErrorOf("1:--", 3);
        firstErrorOf("1:-0", 4);
        firstErrorOf("1:-00", 4);
        firstErrorOf("1:01", 3);
        firstErrorOf("1:1000", 5);
        firstErrorOf("1:-1000", 6);
        firstErrorOf("1:1-", 3);
        firstErrorOf("1:1:", 3);
        firstErrorOf("1:1,", 4);
        firstErrorOf("1:1,,", 4);
        firstErrorOf("1:1,1:1,1:1", 11);
        firstErrorOf("1:1;1:1", 3);
        firstErrorOf("1:a", 2);
        firstErrorOf("1/", 1);
        firstErrorOf("5:5,4:4,007:1", 9);
        firstErrorOf("0:0,".repeat(15), 60);
    }

    private static void refusedText(String text) {
        OathDiary x = diary(7, 7);
        write(x, text);
        refused("15: " + text, x, ARGUMENT, () -> x.addAll());
        due("15: the buffer stays", text.length(), x.clearBuffer());
    }

    private static void addAll() {
        for (String text : new String[] {"", "1", "1:", "1:-", "1:1,", "1:1,2", "1:00", "01:1", "1:1,7", "1:1x"}) {
            refusedText(text);
        }
        OathDiary x = diary(7, 7);
        write(x, "9999:-999,0:-0,100:999,30:10");
        due("15: points then", 5, x.addAll());
        due("15: the order of time", 0, x.point(0, 0));
        due("15: -0 is 0", 0, x.point(0, 1));
        due("15: a value below 0", -999, x.point(4, 1));
        due("15: three digits", 999, x.point(3, 1));
        due("15: the value of the last one", 10, x.point(2, 1));
        dueText("15: they are kept", "11111", kept(x));
        due("15: the buffer is cleared", 0, x.clearBuffer());
        due("15: saved once", 2, x.count(10));
        x.undo();
        due("15: undone as one call", 1, x.count(0));
        due("15: the buffer is not brought back", 0, x.clearBuffer());
        write(x, "1:1,7:7");
        refused("15: the time is taken", x, STATE, () -> x.addAll());
        due("15: the buffer stays", 7, x.clearBuffer());
        write(x, "1:1,2:2,1:1");
        refused("15: two with one time", x, STATE, () -> x.addAll());
        x.clearBuffer();
        write(x, "7:1,7");
        refused("15: taken, and not complete", x, ARGUMENT, () -> x.addAll());
        OathDiary y = full();
        y.undo();
        write(y, "1:1,2:2");
        refused("15: 61 points", y, STATE, () -> y.addAll());
        y.clearBuffer();
        write(y, "9999:1");
        due("15: 60 points", 60, y.addAll());
        OathDiary first = diary(7, 7);
        write(first, "7:1,8:8");
        refused("15: the first time is taken", first, STATE, () -> first.addAll());
        OathDiary thinned = diary(0, 0, 10, 0, 20, 0);
        due("15: before", 2, thinned.ifThinned(2));
        write(thinned, "5:90,30:40");
        thinned.addAll();
        due("15: then", 5, thinned.ifThinned(2));
        OathDiary most = new OathDiary();
        write(most, "0:0,1:1,2:2,3:3,4:4,5:5,6:6,7:7,8:8,9:9,10:1,11:1,12:1,13:1");
        due("15: the longest buffer", 59, "0:0,1:1,2:2,3:3,4:4,5:5,6:6,7:7,8:8,9:9,10:1,11:1,12:1,13:1".length());
        due("15: many points", 14, most.addAll());
    }

    private static void undo() {
        OathDiary x = new OathDiary();
        for (int i = 0; i < 9; i++) {
            x.add(i * 10, i);
        }
        due("16: at most 6", 6, x.count(10));
        for (int i = 5; i >= 0; i--) {
            due("16: left", i, x.undo());
            due("16: the points", 3 + i, x.count(0));
        }
        refused("16: none is left", x, STATE, () -> x.undo());
        x.add(500, 5);
        x.add(510, 5);
        due("16: again", 1, x.undo());
        due("16: the state before", 4, x.count(0));
        OathDiary y = new OathDiary();
        write(y, "0:0,10:0,20:0");
        y.addAll();
        y.note(10, 0);
        long before = y.digest();
        y.thin(0);
        y.set(0, 3);
        y.strike();
        y.tear(0);
        y.undo();
        y.undo();
        y.undo();
        y.undo();
        due("16: saved states", 2, y.count(10));
        due("16: the whole digest", before, y.digest());
        y.correct(1, 90);
        due("16: what thinning keeps", 3, y.ifThinned(2));
        y.undo();
        due("16: and as it was", 2, y.ifThinned(2));
    }

    private static void point() {
        OathDiary x = diary(0, 5, 10, 7, 20, 9, 30, 60, 400, 1);
        x.drop(1);
        int[][] want = {
            {0, 5, 1, 0, 0, NONE, 2, 2},
            {10, 7, 0, 0, 0, 0, 2, 1},
            {20, 9, 1, 0, 0, 0, 3, 3},
            {30, 60, 1, 0, 0, 2, NONE, 2},
            {400, 1, 1, 0, 1, NONE, NONE, 2}};
        for (int i = 0; i < want.length; i++) {
            for (int what = 0; what <= 7; what++) {
                due("17: point(" + i + ", " + what + ")", want[i][what], x.point(i, what));
            }
        }
        x.correct(1, 18);
        due("17: error 11 is broken", 1, x.point(1, 3));
        x.correct(1, 17);
        due("17: error 10 is not", 0, x.point(1, 3));
        x.set(1, 9);
        due("17: no reading is broken", 1, x.point(1, 3));
        due("17: no kept one in its stretch", NONE, x.point(1, 5));
        due("17: nor behind", NONE, x.point(1, 6));
        refused("17: point 5", x, INDEX, () -> x.point(5, 0));
        refused("17: point -1", x, INDEX, () -> x.point(-1, 0));
        refused("17: what 8", x, ARGUMENT, () -> x.point(0, 8));
        refused("17: what -1", x, ARGUMENT, () -> x.point(0, -1));
        refused("17: both", x, INDEX, () -> x.point(5, 8));
    }

    private static void error() {
        OathDiary x = diary(0, 0, 10, 5, 20, 8, 30, 10);
        due("18: kept", 0, x.error(1, 0));
        due("18: kept, denominator", 1, x.error(1, 1));
        x.thin(2);
        due("18: 5 off 10/3", 5, x.error(1, 0));
        due("18: lowest terms", 3, x.error(1, 1));
        due("18: 8 off 20/3", 4, x.error(2, 0));
        x.correct(1, -5);
        due("18: below the line", 25, x.error(1, 0));
        x.set(2, 1);
        due("18: by steps", 5, x.error(1, 0));
        due("18: by steps, denominator", 1, x.error(1, 1));
        due("18: by steps from the first", 8, x.error(2, 0));
        x.correct(2, 0);
        due("18: no error", 0, x.error(2, 0));
        due("18: no error, denominator", 1, x.error(2, 1));
        x.set(1, 5);
        due("18: no reading", NONE, x.error(1, 0));
        due("18: no reading, denominator", NONE, x.error(1, 1));
        OathDiary y = diary(100, 0, 110, 5, 120, 8, 130, 10);
        y.thin(2);
        due("18: later times", 5, y.error(1, 0));
        due("18: later times, denominator", 3, y.error(1, 1));
        OathDiary ends = droppedAtBothEnds();
        due("18: no kept point ahead", NONE, ends.error(0, 0));
        due("18: no kept point behind", NONE, ends.error(3, 1));
        refused("18: point 4", x, INDEX, () -> x.error(4, 0));
        refused("18: point -1", x, INDEX, () -> x.error(-1, 0));
        refused("18: what 2", x, ARGUMENT, () -> x.error(0, 2));
        refused("18: what -1", x, ARGUMENT, () -> x.error(0, -1));
        refused("18: both", x, INDEX, () -> x.error(4, 2));
    }

    private static void reading() {
        OathDiary x = diary(10, 0, 20, 5, 30, -10, 200, 0);
        due("19: a kept point", 5, x.reading(20, 0));
        due("19: a kept point, denominator", 1, x.reading(20, 1));
        due("19: on the line", 3, x.reading(16, 0));
        due("19: on the line, denominator", 1, x.reading(16, 1));
        due("19: a fraction", 5, x.reading(15, 0));
        due("19: a fraction, denominator", 2, x.reading(15, 1));
        due("19: below 0", -17, x.reading(29, 0));
        due("19: below 0, denominator", 2, x.reading(29, 1));
        due("19: ahead of all", NONE, x.reading(9, 0));
        due("19: behind all", NONE, x.reading(201, 1));
        due("19: in a gap", NONE, x.reading(100, 0));
        due("19: in a gap, denominator", NONE, x.reading(31, 1));
        due("19: alone in its stretch", 0, x.reading(200, 0));
        x.correct(1, -1);
        x.drop(1);
        due("19: at a dropped point", -5, x.reading(20, 0));
        due("19: 0 in lowest terms", 1, x.reading(10, 1));
        x.set(2, 1);
        due("19: by steps", 0, x.reading(29, 0));
        due("19: by steps, at the point", -10, x.reading(30, 0));
        due("19: by steps, in a gap", NONE, x.reading(31, 0));
        x.set(1, 15);
        due("19: dropped points bridge gaps", 0, x.reading(25, 0));
        x.set(1, 9);
        due("19: not any more", NONE, x.reading(25, 0));
        refused("19: time -1", x, ARGUMENT, () -> x.reading(-1, 0));
        refused("19: time 10000", x, ARGUMENT, () -> x.reading(10000, 0));
        refused("19: what -1", x, ARGUMENT, () -> x.reading(0, -1));
        refused("19: what 2", x, ARGUMENT, () -> x.reading(0, 2));
        due("19: an empty diary", NONE, new OathDiary().reading(0, 0));
    }

    private static void stretch() {
        OathDiary x = diary(0, 0, 10, 0, 20, 0, 30, 40, 200, 1, 210, 1, 220, 1);
        x.thin(0);
        x.correct(5, 50);
        int[][] want = {{0, 4, 3, 0, 3}, {4, 3, 2, 1, 3}};
        for (int i = 0; i < want.length; i++) {
            for (int what = 0; what <= 4; what++) {
                due("20: stretch(" + i + ", " + what + ")", want[i][what], x.stretch(i, what));
            }
        }
        x.correct(5, 1);
        due("20: fewer", 2, x.stretch(1, 4));
        refused("20: stretch 2", x, INDEX, () -> x.stretch(2, 0));
        refused("20: stretch -1", x, INDEX, () -> x.stretch(-1, 0));
        refused("20: what 5", x, ARGUMENT, () -> x.stretch(0, 5));
        refused("20: what -1", x, ARGUMENT, () -> x.stretch(0, -1));
        refused("20: both", x, INDEX, () -> x.stretch(2, 5));
        OathDiary ends = droppedAtBothEnds();
        due("20: the first point is broken", 1, ends.stretch(0, 3));
        due("20: the last point is broken", 1, ends.stretch(1, 3));
        due("20: one point", 1, diary(5, 5).stretch(0, 4));
    }

    private static void noteAt() {
        OathDiary x = diary(0, 0, 10, 5, 200, 0);
        x.note(5, 12);
        x.note(5, 13);
        x.note(100, 0);
        x.note(200, -10);
        int[][] want = {{5, 12, 1}, {5, 13, 0}, {100, 0, 0}, {200, -10, 1}};
        for (int i = 0; i < want.length; i++) {
            for (int what = 0; what <= 2; what++) {
                due("21: noteAt(" + i + ", " + what + ")", want[i][what], x.noteAt(i, what));
            }
        }
        x.set(2, 1);
        due("21: by steps 12 off 0", 0, x.noteAt(0, 2));
        refused("21: note 4", x, INDEX, () -> x.noteAt(4, 0));
        refused("21: note -1", x, INDEX, () -> x.noteAt(-1, 0));
        refused("21: what 3", x, ARGUMENT, () -> x.noteAt(0, 3));
        refused("21: what -1", x, ARGUMENT, () -> x.noteAt(0, -1));
        refused("21: both", x, INDEX, () -> x.noteAt(4, 3));
    }

    private static void count() {
        OathDiary x = diary(0, 0, 10, 5, 20, 8, 30, 10, 300, 0, 310, 0, 330, 0);
        x.thin(2);
        x.note(0, 0);
        x.note(310, 11);
        int[] want = {7, 4, 0, 2, 2, 1, 2, 1, 0, 30, 6};
        for (int what = 0; what <= 10; what++) {
            due("22: count(" + what + ")", want[what], x.count(what));
        }
        x.correct(1, 15);
        due("22: broken", 1, x.count(2));
        due("22: the greatest error 35/3, rounded up", 12, x.count(6));
        x.tear(0);
        due("22: torn", 4, x.count(8));
        due("22: the longest step", 30, x.count(9));
        x.keep(1);
        due("22: the longest step then", 20, x.count(9));
        x.set(1, 1);
        due("22: none in a stretch", 0, x.count(9));
        OathDiary none = diary(0, 0, 10, 9, 20, 0);
        none.drop(1);
        due("22: the greatest error", 9, none.count(6));
        none.set(1, 9);
        due("22: without any reading", 0, none.count(6));
        due("22: the first and the last point are broken", 2, droppedAtBothEnds().count(2));
        refused("22: what 11", x, ARGUMENT, () -> x.count(11));
        refused("22: what -1", x, ARGUMENT, () -> x.count(-1));
    }

    private static void setting() {
        OathDiary x = new OathDiary();
        x.set(1, 7);
        due("23: as it was set", 7, x.setting(1));
        due("23: the others stay", 10, x.setting(0));
        refused("23: setting 3", x, INDEX, () -> x.setting(3));
        refused("23: setting -1", x, INDEX, () -> x.setting(-1));
    }

    private static void area() {
        OathDiary x = diary(0, 10, 10, 20, 30, 0, 500, 999, 510, -999);
        due("24: the kept ones", 30 * 10 + 20 * 20, x.area(false));
        x.set(0, 500);
        x.drop(1);
        due("24: without the dropped one", 10 * 30, x.area(false));
        due("24: all", 30 * 10 + 20 * 20, x.area(true));
        x.set(2, 1);
        due("24: by steps", 20 * 30 + 1998 * 10, x.area(false));
        due("24: by steps, all", 20 * 10 + 40 * 20 + 1998 * 10, x.area(true));
        x.set(1, 10);
        due("24: a dropped point at an end", 20 * 10 + 1998 * 10, x.area(true));
        due("24: and no kept one behind", 1998 * 10, x.area(false));
        due("24: an empty diary", 0, new OathDiary().area(true));
        due("24: one point", 0, diary(5, 5).area(false));
    }

    private static void whyNot() {
        OathDiary x = diary(0, 0, 10, 5, 20, 0, 30, 50, 40, 0, 200, 0);
        int[] want = {2, 0, 3, 3, 2, 2};
        for (int i = 0; i < want.length; i++) {
            due("25: whyNot(" + i + ")", want[i], x.whyNot(i));
        }
        x.drop(1);
        due("25: it is dropped", 1, x.whyNot(1));
        x.set(1, 9);
        due("25: dropped, and alone", 1, x.whyNot(1));
        due("25: alone", 2, x.whyNot(3));
        OathDiary y = diary(0, 0, 10, 10, 20, 10, 30, 10, 40, 10);
        due("25: 5 off", 0, y.whyNot(1));
        y.drop(1);
        due("25: then 1 is 20/3 off", 0, y.whyNot(2));
        y.set(0, 6);
        due("25: which may not be", 3, y.whyNot(2));
        refused("25: point 5", y, INDEX, () -> y.whyNot(5));
        refused("25: point -1", y, INDEX, () -> y.whyNot(-1));
    }

    private static void join() {
        OathDiary x = diary(0, 0, 10, 10, 20, 11, 30, -10, 40, 0, 300, 0);
        due("26: two of three are within", 2, x.join(0, 4));
        due("26: neighbors", 0, x.join(0, 1));
        due("26: one between", 1, x.join(0, 2));
        due("26: not in the same stretch", NONE, x.join(0, 5));
        x.drop(1);
        due("26: dropped points, too", 2, x.join(0, 4));
        due("26: from a dropped point", 1, x.join(1, 4));
        x.set(2, 1);
        due("26: by steps", 2, x.join(0, 4));
        due("26: by steps from 10", 1, x.join(1, 4));
        refused("26: point 6", x, INDEX, () -> x.join(0, 6));
        refused("26: point -1", x, INDEX, () -> x.join(-1, 0));
        refused("26: alike", x, ARGUMENT, () -> x.join(1, 1));
        refused("26: less", x, ARGUMENT, () -> x.join(2, 1));
        refused("26: no such one, and less", x, INDEX, () -> x.join(6, 0));
        refused("26: no such other, and less", x, INDEX, () -> x.join(0, -1));
    }

    private static void ifThinned() {
        OathDiary x = diary(0, 0, 10, 10, 20, 0, 30, 10, 40, 20, 500, 0);
        x.set(0, 9);
        due("27: far", 4, x.ifThinned(0));
        x.set(0, 5);
        for (int way = 0; way <= 2; way++) {
            int would = x.ifThinned(way);
            due("27: nothing is thinned", 0, x.count(7));
            due("27: nothing is saved", way == 0 ? 6 : 5, x.count(10));
            dueText("27: nothing is dropped", "111111", kept(x));
            due("27: as thin answers", would, x.thin(way));
            x.undo();
        }
        refused("27: way 3", x, ARGUMENT, () -> x.ifThinned(3));
        refused("27: way -1", x, ARGUMENT, () -> x.ifThinned(-1));
        due("27: an empty diary", 0, new OathDiary().ifThinned(1));
    }

    private static void leastOath() {
        OathDiary x = diary(0, 0, 10, 10, 20, 0, 30, 10, 40, 20);
        due("28: two, with 10 off", 10, x.leastOath(2));
        due("28: three", 7, x.leastOath(3));
        due("28: four", 0, x.leastOath(4));
        due("28: five", 0, x.leastOath(5));
        due("28: sixty", 0, x.leastOath(60));
        due("28: one cannot be", NONE, x.leastOath(1));
        due("28: none cannot be", NONE, x.leastOath(0));
        due("28: an empty diary", 0, new OathDiary().leastOath(0));
        due("28: one point", 0, diary(1, 1).leastOath(1));
        due("28: exactly 500", 500, diary(0, 0, 10, 500, 20, 0).leastOath(2));
        due("28: above 500", NONE, diary(0, 0, 10, 501, 20, 0).leastOath(2));
        due("28: 1001/2, rounded up, is above 500", NONE, diary(0, 0, 10, 500, 20, -1).leastOath(2));
        due("28: 999/2, rounded up", 500, diary(0, 0, 10, 499, 20, -1).leastOath(2));
        refused("28: -1", x, ARGUMENT, () -> x.leastOath(-1));
        refused("28: 61", x, ARGUMENT, () -> x.leastOath(61));
        leastOathStepByStep();
    }

    /** Tries each oath from 0 on. */
    private static void leastOathStepByStep() {
        for (int manner = 0; manner <= 1; manner++) {
            OathDiary x = new OathDiary();
            x.set(2, manner);
            for (int i = 0; i < 20; i++) {
                x.add(i * 13, (i * i * 37) % 61 + (i % 3) * 20 - 40);
            }
            x.add(900, 0);
            int[] fewest = new int[150];
            for (int oath = 0; oath < fewest.length; oath++) {
                x.set(0, oath);
                fewest[oath] = x.ifThinned(2);
            }
            for (int many = 3; many <= 60; many++) {
                int oath = 0;
                while (fewest[oath] > many) {
                    oath++;
                }
                due("28: leastOath(" + many + ") of " + Arrays.toString(fewest), oath, x.leastOath(many));
            }
        }
    }

    private static void cheapest() {
        OathDiary x = diary(0, 0, 10, 6, 20, 0, 30, 4, 40, 0);
        due("29: 6, 5, 4 off", 3, x.cheapest(0));
        due("29: its error", 4, x.cheapest(1));
        x.drop(3);
        due("29: 2 would miss 3, so 4 and 4 off", 2, x.cheapest(0));
        due("29: the greatest between, rounded up", 4, x.cheapest(1));
        x.drop(2);
        due("29: 1 is left", 1, x.cheapest(0));
        x.drop(1);
        due("29: none is left", NONE, x.cheapest(0));
        due("29: no error", NONE, x.cheapest(1));
        OathDiary even = diary(0, 0, 10, 6, 20, 6, 30, 0);
        due("29: of several the lowest number", 1, even.cheapest(0));
        OathDiary close = diary(0, 0, 10, 2, 30, 3, 60, 0);
        due("29: 1 or 9/5 off", 1, close.cheapest(0));
        due("29: rounded up", 1, close.cheapest(1));
        OathDiary later = diary(0, 0, 10, 3, 20, 0, 200, 0, 203, 2, 210, 0);
        due("29: 3 or 2", 4, later.cheapest(0));
        OathDiary fine = diary(0, 0, 10, 2, 20, 1, 300, 0, 310, 2, 330, 2);
        // 3/2 and 4/3: both are 2 when rounded up
        due("29: 3/2 or 4/3", 4, fine.cheapest(0));
        due("29: 4/3 rounded up", 2, fine.cheapest(1));
        due("29: an empty diary", NONE, new OathDiary().cheapest(0));
        refused("29: what 2", x, ARGUMENT, () -> x.cheapest(2));
        refused("29: what -1", x, ARGUMENT, () -> x.cheapest(-1));
    }

    private static void droppedShare() {
        due("30: an empty diary", Double.doubleToLongBits(0.0), Double.doubleToLongBits(new OathDiary().droppedShare()));
        OathDiary x = diary(0, 0, 10, 0, 20, 0);
        due("30: all are kept", Double.doubleToLongBits(0.0), Double.doubleToLongBits(x.droppedShare()));
        x.drop(1);
        due("30: a third", Double.doubleToLongBits(1.0 / 3), Double.doubleToLongBits(x.droppedShare()));
        x.set(1, 9);
        x.tear(0);
        x.tear(1);
        due("30: all are dropped", Double.doubleToLongBits(1.0), Double.doubleToLongBits(x.droppedShare()));
    }

    private static void digest() {
        long[] empty = {0, 0, 0, 0, 0, 0, 0, 0, 0, 0, 0, 10, 100, 0, 0, 0, 0, 0, NONE, NONE, 0, 0, 0, 0};
        OathDiary x = new OathDiary();
        due("31: a new object", hash(empty), x.digest());
        x.append('7');
        long[] buffer = Arrays.copyOf(empty, empty.length + 1);
        buffer[buffer.length - 2] = 1;
        buffer[buffer.length - 1] = '7';
        due("31: with a buffer", hash(buffer), x.digest());
        OathDiary y = diary(0, 0, 10, 5, 20, 0);
        y.drop(1);
        y.note(10, 4);
        due("31: with points and a note", hash(
            3, 2, 0, 1, 1, 1, 5, 0, 0, 20, 5,
            10, 100, 0,
            0, 0, 1, 0, 0, NONE, 2, 2, 0, 1,
            10, 5, 0, 0, 0, 0, 2, 1, 5, 1,
            20, 0, 1, 0, 0, 0, NONE, 2, 0, 1,
            0, 3, 2, 0, 2,
            10, 4, 1,
            2, 2, 2, 0, NONE, NONE, 0, 100, Double.doubleToLongBits(1.0 / 3),
            0), y.digest());
        due("31: nothing is changed", y.digest(), y.digest());
        shares();
    }

    /** Each share that there can be; the digests are summed up anew from what the object answers. */
    private static void shares() {
        for (int points = 3; points <= 60; points++) {
            OathDiary x = new OathDiary();
            for (int i = 0; i < points; i++) {
                x.add(i, 0);
            }
            x.thin(0);
            for (int dropped = points - 2; dropped > 0; dropped--) {
                x.keep(dropped);
                due("31: " + (dropped - 1) + " of " + points, hash(valuesOf(x, "")), x.digest());
            }
        }
    }

    public static void main(String[] args) {
        newObject();
        add();
        correct();
        drop();
        keep();
        mend();
        thin();
        tear();
        set();
        note();
        strike();
        append();
        clearBuffer();
        firstError();
        addAll();
        undo();
        point();
        error();
        reading();
        stretch();
        noteAt();
        count();
        setting();
        area();
        whyNot();
        join();
        ifThinned();
        leastOath();
        cheapest();
        droppedShare();
        digest();
        end();
    }
}
