import java.io.IOException;
import java.nio.file.Files;
import java.nio.file.Path;
import java.util.ArrayList;
import java.util.List;
import java.util.stream.LongStream;

/** What the tests of the project share: diaries to begin with, comparisons, and the document's own words. */
abstract class Checks {
    static final int NONE = OathDiary.NONE;
    static final Class<?> INDEX = IndexOutOfBoundsException.class;
    static final Class<?> ARGUMENT = IllegalArgumentException.class;
    static final Class<?> STATE = IllegalStateException.class;

    private static final Path DOCUMENT = Path.of("../shared/DOC.md");

    private static int wrong;
    private static int checks;
    private static String label = "";
    private static List<String> section = new ArrayList<>();
    private static List<String> quoted = new ArrayList<>();

    interface Call {
        long answer();
    }

    interface CallWith {
        long answer(int argument);
    }

    private static void tell(String what) {
        wrong++;
        System.out.println(label + what);
    }

    static void due(String what, long want, long got) {
        checks++;
        if (got != want) {
            tell(what + ": answered " + got + ", due is " + want);
        }
    }

    static void dueText(String what, String want, String got) {
        checks++;
        if (!got.equals(want)) {
            tell(what + ": is " + got + ", due is " + want);
        }
    }

    /** The call throws exactly this, and changes nothing. */
    static void refused(String what, OathDiary x, Class<?> want, Call call) {
        checks++;
        long before = x.digest();
        Class<?> got = null;
        try {
            call.answer();
        } catch (RuntimeException e) {
            got = e.getClass();
        }
        if (got != want) {
            tell(what + ": threw " + got + ", due is " + want);
        }
        due(what + ", the state after it", before, x.digest());
    }

    /** The call throws exactly this for the numbers next to a range, and for the least and the greatest there are. */
    static void refusedOutside(int least, int greatest, OathDiary x, Class<?> want, CallWith call) {
        for (int argument : new int[] {least - 1, greatest + 1, -least - 1, Integer.MIN_VALUE, Integer.MAX_VALUE}) {
            if (argument < least || argument > greatest) {
                refused("with " + argument, x, want, () -> call.answer(argument));
            }
        }
    }

    /** The call saves one state, however little it changes, and undo brings back what was there before it. */
    static void undoable(OathDiary x, Call call) {
        int saved = Math.min(x.count(10), 5);
        long before = hash(stateOf(x));
        call.answer();
        due("saved states", saved + 1, x.count(10));
        due("saved states after undo", saved, x.undo());
        due("the state after undo", before, hash(stateOf(x)));
    }

    /** What undo is to bring back: all but the buffer and the saved states. */
    private static long[] stateOf(OathDiary x) {
        long[] row = valuesOf(x, "");
        row[10] = 0;
        return row;
    }

    /** The call changes nothing, and saves nothing. */
    static void changesNothing(String what, OathDiary x, Call call) {
        long before = x.digest();
        long first = call.answer();
        due(what + ", the state after it", before, x.digest());
        due(what + ", once more", first, call.answer());
    }

    static OathDiary diary(int... timesAndValues) {
        OathDiary x = new OathDiary();
        for (int i = 0; i < timesAndValues.length; i += 2) {
            x.add(timesAndValues[i], timesAndValues[i + 1]);
        }
        return x;
    }

    /** Points at times 10 apart, from 0 on. */
    static OathDiary values(int... values) {
        OathDiary x = new OathDiary();
        for (int i = 0; i < values.length; i++) {
            x.add(10 * i, values[i]);
        }
        return x;
    }

    /** A diary whose first point is dropped, and whose last one is, too, each in a stretch of its own with a kept one. */
    static OathDiary droppedAtBothEnds() {
        OathDiary x = diary(0, 0, 20, 0, 30, 0, 50, 0, 60, 0, 80, 0);
        x.drop(1);
        x.drop(4);
        x.set(1, 10);
        x.tear(0);
        x.tear(2);
        return x;
    }

    /** A diary of one point, at the time 10, which is dropped. */
    static OathDiary allDropped() {
        OathDiary x = diary(0, 0, 10, 0, 20, 0);
        x.drop(1);
        x.set(1, 9);
        x.tear(0);
        x.tear(1);
        return x;
    }

    static OathDiary full() {
        OathDiary x = new OathDiary();
        for (int i = 0; i < 60; i++) {
            x.add(i * 10, 0);
        }
        return x;
    }

    /** A diary with notes, dropped points, two stretches, a buffer, and six saved states. */
    static OathDiary busy() {
        OathDiary x = values(0, 5, 0, 50, 0, 0);
        x.add(700, 7);
        x.note(5, 3);
        x.note(600, 3);
        x.set(0, 20);
        x.drop(1);
        x.correct(4, 1);
        x.thin(2);
        write(x, "10:0,20");
        return x;
    }

    static void write(OathDiary x, String text) {
        for (int i = 0; i < text.length(); i++) {
            x.append(text.charAt(i));
        }
    }

    static OathDiary written(String text) {
        OathDiary x = new OathDiary();
        write(x, text);
        return x;
    }

    /** For each point 1 if it is kept, otherwise 0. */
    static String kept(OathDiary x) {
        StringBuilder row = new StringBuilder();
        for (int i = 0; i < x.count(0); i++) {
            row.append(x.point(i, 2));
        }
        return row.toString();
    }

    /** All points: time, value, and a + if it is kept, otherwise a -. */
    static String points(OathDiary x) {
        StringBuilder row = new StringBuilder();
        for (int i = 0; i < x.count(0); i++) {
            row.append(i == 0 ? "" : " ").append(x.point(i, 0)).append(':').append(x.point(i, 1));
            row.append(x.point(i, 2) == 1 ? '+' : '-');
        }
        return row.toString();
    }

    static String notes(OathDiary x) {
        StringBuilder row = new StringBuilder();
        for (int i = 0; i < x.count(4); i++) {
            row.append(i == 0 ? "" : " ").append(x.noteAt(i, 0)).append(':').append(x.noteAt(i, 1));
        }
        return row.toString();
    }

    static String reading(OathDiary x, int time) {
        return fraction(x.reading(time, 0), x.reading(time, 1));
    }

    static String error(OathDiary x, int point) {
        return fraction(x.error(point, 0), x.error(point, 1));
    }

    private static String fraction(int numerator, int denominator) {
        return numerator == NONE && denominator == NONE ? "NONE" : numerator + "/" + denominator;
    }

    static long hash(long... values) {
        long hash = 2381;
        for (long value : values) {
            hash = 31 * hash + value;
        }
        return hash;
    }

    /** The values of a digest, in order, each one asked for by itself; the buffer holds this text. */
    static long[] valuesOf(OathDiary x, String text) {
        LongStream.Builder row = LongStream.builder();
        for (int what = 0; what <= 10; what++) {
            row.add(x.count(what));
        }
        for (int i = 0; i <= 2; i++) {
            row.add(x.setting(i));
        }
        for (int i = 0; i < x.count(0); i++) {
            for (int what = 0; what <= 7; what++) {
                row.add(x.point(i, what));
            }
            row.add(x.error(i, 0)).add(x.error(i, 1));
        }
        for (int i = 0; i < x.count(3); i++) {
            for (int what = 0; what <= 4; what++) {
                row.add(x.stretch(i, what));
            }
        }
        for (int i = 0; i < x.count(4); i++) {
            for (int what = 0; what <= 2; what++) {
                row.add(x.noteAt(i, what));
            }
        }
        row.add(x.ifThinned(0)).add(x.ifThinned(1)).add(x.ifThinned(2));
        row.add(x.leastOath(10)).add(x.cheapest(0)).add(x.cheapest(1));
        row.add(x.area(false)).add(x.area(true)).add(Double.doubleToLongBits(x.droppedShare()));
        row.add(text.length());
        for (int i = 0; i < text.length(); i++) {
            row.add(text.charAt(i));
        }
        return row.build().toArray();
    }

    /** From here on the sentences are of the section with this headline. */
    static void section(String headline) {
        endSection();
        section = new ArrayList<>();
        quoted = new ArrayList<>();
        boolean inside = false;
        for (String line : document()) {
            if (line.startsWith("## ")) {
                inside = line.startsWith("## " + headline);
            } else if (inside && !line.isEmpty()) {
                section.add(line);
            }
        }
        label = headline + ": ";
        due("stands in the document", 1, section.isEmpty() && Files.exists(DOCUMENT) ? 0 : 1);
    }

    /** What is compared from here on is told by these words of the section. */
    static void sentence(String words) {
        label = "\"" + words + "\": ";
        // without the document there is nothing to look up; the answers are compared all the same
        boolean found = section.isEmpty();
        for (String line : section) {
            found |= line.contains(words);
        }
        due("stands in the section", 1, found ? 1 : 0);
        quoted.add(words);
    }

    /** Each line of a section, but its headlines, has words that are tested. */
    private static void endSection() {
        for (String line : section) {
            boolean tested = line.startsWith("#") || !line.contains(" ") || line.startsWith("Ahead of the calls");
            for (String words : quoted) {
                tested |= line.contains(words);
            }
            label = "";
            due("tested: " + line, 1, tested ? 1 : 0);
        }
        section = new ArrayList<>();
    }

    private static List<String> document() {
        try {
            return Files.readAllLines(DOCUMENT);
        } catch (IOException e) {
            return new ArrayList<>();
        }
    }

    static void end() {
        endSection();
        System.out.println(wrong == 0 ? checks + " checks are as due" : wrong + " of " + checks + " checks are not as due");
        if (wrong != 0) {
            System.exit(1);
        }
    }
}
