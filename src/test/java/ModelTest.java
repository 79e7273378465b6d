import java.util.ArrayDeque;
import java.util.ArrayList;
import java.util.Arrays;
import java.util.List;
import java.util.TreeMap;
import java.util.regex.Pattern;

/** Compares long runs of calls with a slow model that is written word for word after the document. */
public final class ModelTest {
    private static final int NONE = -1000000;

    /** A fraction in lowest terms with a denominator above 0. */
    private static final class Part {
        final long top;
        final long bottom;

        Part(long top, long bottom) {
            long divisor = divisor(Math.abs(top), bottom);
            this.top = top / divisor;
            this.bottom = bottom / divisor;
        }

        static long divisor(long one, long other) {
            return other == 0 ? one : divisor(other, one % other);
        }

        Part plus(Part other) {
            long sum = Math.addExact(Math.multiplyExact(top, other.bottom), Math.multiplyExact(other.top, bottom));
            return new Part(sum, Math.multiplyExact(bottom, other.bottom));
        }

        Part times(Part other) {
            return new Part(Math.multiplyExact(top, other.top), Math.multiplyExact(bottom, other.bottom));
        }

        Part minus(long value) {
            return plus(new Part(-value, 1));
        }

        Part size() {
            return new Part(Math.abs(top), bottom);
        }

        int against(Part other) {
            return Long.compare(Math.multiplyExact(top, other.bottom), Math.multiplyExact(other.top, bottom));
        }

        boolean atMost(int limit) {
            return top <= limit * bottom;
        }

        int roundedUp() {
            return (int) (top / bottom + (top % bottom > 0 ? 1 : 0));
        }
    }

    private static final class Dot {
        final int time;
        int value;
        boolean kept;

        Dot(int time, int value, boolean kept) {
            this.time = time;
            this.value = value;
            this.kept = kept;
        }
    }

    private static final class World {
        final TreeMap<Integer, Dot> dots = new TreeMap<>();
        final List<int[]> notes = new ArrayList<>();
        final int[] settings = {10, 100, 0};
        int thinned;
        int torn;

        World copy() {
            World world = new World();
            for (Dot dot : dots.values()) {
                world.dots.put(dot.time, new Dot(dot.time, dot.value, dot.kept));
            }
            for (int[] note : notes) {
                world.notes.add(note.clone());
            }
            System.arraycopy(settings, 0, world.settings, 0, 3);
            world.thinned = thinned;
            world.torn = torn;
            return world;
        }
    }

    private static final class Model {
        static final String TIME = "(0|[1-9][0-9]{0,3})";
        static final String VALUE = "-?(0|[1-9][0-9]{0,2})";
        static final Pattern ROW = Pattern.compile(TIME + ":" + VALUE + "(," + TIME + ":" + VALUE + ")*");

        World world = new World();
        final ArrayDeque<World> saved = new ArrayDeque<>();
        final StringBuilder buffer = new StringBuilder();

        List<Dot> dots() {
            return new ArrayList<>(world.dots.values());
        }

        void save() {
            saved.addLast(world.copy());
            if (saved.size() > 6) {
                saved.removeFirst();
            }
        }

        static IllegalArgumentException argument() {
            return new IllegalArgumentException();
        }

        static IllegalStateException state() {
            return new IllegalStateException();
        }

        Dot dot(int point) {
            if (point < 0 || point >= world.dots.size()) {
                throw new IndexOutOfBoundsException();
            }
            return dots().get(point);
        }

        static void range(int number, int from, int to) {
            if (number < from || number > to) {
                throw argument();
            }
        }

        List<List<Dot>> stretches() {
            List<List<Dot>> stretches = new ArrayList<>();
            Dot last = null;
            for (Dot dot : dots()) {
                if (last == null || dot.time - last.time > world.settings[1]) {
                    stretches.add(new ArrayList<>());
                }
                stretches.get(stretches.size() - 1).add(dot);
                last = dot;
            }
            return stretches;
        }

        List<Dot> stretchOf(Dot dot) {
            for (List<Dot> stretch : stretches()) {
                if (stretch.contains(dot)) {
                    return stretch;
                }
            }
            return null;
        }

        List<Dot> stretchAt(int stretch) {
            if (stretch < 0 || stretch >= stretches().size()) {
                throw new IndexOutOfBoundsException();
            }
            return stretches().get(stretch);
        }

        Part between(Dot a, Dot b, int time) {
            if (world.settings[2] == 1) {
                return new Part(a.value, 1);
            }
            return new Part(a.value, 1).plus(new Part(b.value - a.value, b.time - a.time).times(new Part(time - a.time, 1)));
        }

        Part readingAt(int time) {
            Dot a = null;
            Dot b = null;
            for (Dot dot : dots()) {
                if (dot.kept && dot.time == time) {
                    return new Part(dot.value, 1);
                }
                if (dot.kept && dot.time < time) {
                    a = dot;
                }
                if (dot.kept && dot.time > time && b == null) {
                    b = dot;
                }
            }
            if (a == null || b == null || !stretchOf(a).contains(b)) {
                return null;
            }
            return between(a, b, time);
        }

        Part errorOf(Dot dot) {
            Part reading = readingAt(dot.time);
            return reading == null ? null : reading.minus(dot.value).size();
        }

        boolean broken(Dot dot) {
            if (dot.kept) {
                return false;
            }
            Part error = errorOf(dot);
            return error == null || !error.atMost(world.settings[0]);
        }

        /** The errors of the points between two points of a list, if only these two were kept. */
        List<Part> errors(List<Dot> list, int one, int other) {
            List<Part> errors = new ArrayList<>();
            for (int i = one + 1; i < other; i++) {
                Part reading = between(list.get(one), list.get(other), list.get(i).time);
                errors.add(reading.minus(list.get(i).value).size());
            }
            return errors;
        }

        boolean joined(List<Dot> list, int one, int other, int oath) {
            for (Part error : errors(list, one, other)) {
                if (!error.atMost(oath)) {
                    return false;
                }
            }
            return true;
        }

        static Part greatest(List<Part> parts) {
            Part greatest = new Part(0, 1);
            for (Part part : parts) {
                if (part.against(greatest) > 0) {
                    greatest = part;
                }
            }
            return greatest;
        }

        List<Integer> thinnedBy(int way, List<Dot> list, int oath) {
            if (way == 0) {
                return far(list, oath);
            }
            if (way == 1) {
                List<Integer> kept = new ArrayList<>();
                kept.add(0);
                halves(list, 0, list.size() - 1, oath, kept);
                return kept;
            }
            return few(list, oath);
        }

        List<Integer> far(List<Dot> list, int oath) {
            List<Integer> kept = new ArrayList<>();
            int place = 0;
            kept.add(place);
            while (place < list.size() - 1) {
                int next = list.size() - 1;
                while (!joined(list, place, next, oath)) {
                    next--;
                }
                place = next;
                kept.add(place);
            }
            return kept;
        }

        /** Adds what is kept behind one, up to other, the latter too. */
        void halves(List<Dot> list, int one, int other, int oath, List<Integer> kept) {
            if (other == one) {
                return;
            }
            if (joined(list, one, other, oath)) {
                kept.add(other);
                return;
            }
            List<Part> errors = errors(list, one, other);
            int worst = 0;
            for (int i = 1; i < errors.size(); i++) {
                if (errors.get(i).against(errors.get(worst)) > 0) {
                    worst = i;
                }
            }
            halves(list, one, one + 1 + worst, oath, kept);
            halves(list, one + 1 + worst, other, oath, kept);
        }

        /** The better one of two rows that begin with the same point. */
        static List<Integer> better(List<Integer> one, List<Integer> other) {
            if (one == null || other.size() < one.size()) {
                return other;
            }
            if (other.size() > one.size()) {
                return one;
            }
            for (int i = 0; i < one.size(); i++) {
                int order = Integer.compare(one.get(i), other.get(i));
                if (order != 0) {
                    return order > 0 ? one : other;
                }
            }
            return one;
        }

        List<Integer> few(List<Dot> list, int oath) {
            if (list.size() <= 7) {
                return fewOfAll(list, oath);
            }
            List<List<Integer>> best = new ArrayList<>();
            for (int i = 0; i < list.size(); i++) {
                best.add(null);
            }
            for (int i = list.size() - 1; i >= 0; i--) {
                if (i == list.size() - 1) {
                    best.set(i, new ArrayList<>(List.of(i)));
                }
                for (int j = i + 1; j < list.size(); j++) {
                    if (joined(list, i, j, oath)) {
                        List<Integer> row = new ArrayList<>(List.of(i));
                        row.addAll(best.get(j));
                        best.set(i, better(best.get(i), row));
                    }
                }
            }
            return best.get(0);
        }

        /** Tries every choice of points. */
        List<Integer> fewOfAll(List<Dot> list, int oath) {
            List<Integer> best = null;
            int last = list.size() - 1;
            for (int bits = 0; bits < 1 << list.size(); bits++) {
                if ((bits & 1) == 0 || (bits >> last & 1) == 0) {
                    continue;
                }
                List<Integer> row = new ArrayList<>();
                boolean good = true;
                for (int i = 0; i <= last; i++) {
                    if ((bits >> i & 1) == 1) {
                        if (!row.isEmpty() && !joined(list, row.get(row.size() - 1), i, oath)) {
                            good = false;
                        }
                        row.add(i);
                    }
                }
                if (good) {
                    best = better(best, row);
                }
            }
            return best;
        }

        int thinnedCount(int way, int oath) {
            int many = 0;
            for (List<Dot> stretch : stretches()) {
                many += thinnedBy(way, stretch, oath).size();
            }
            return many;
        }

        int keptCount() {
            int many = 0;
            for (Dot dot : dots()) {
                many += dot.kept ? 1 : 0;
            }
            return many;
        }

        int brokenIn(List<Dot> list) {
            int many = 0;
            for (Dot dot : list) {
                many += broken(dot) ? 1 : 0;
            }
            return many;
        }

        boolean noteTrue(int[] note) {
            Part reading = readingAt(note[0]);
            return reading != null && reading.minus(note[1]).size().atMost(world.settings[0]);
        }

        int neighbor(int point, int step) {
            List<Dot> dots = dots();
            List<Dot> stretch = stretchOf(dot(point));
            for (int i = point + step; i >= 0 && i < dots.size(); i += step) {
                if (!stretch.contains(dots.get(i))) {
                    return NONE;
                }
                if (dots.get(i).kept) {
                    return i;
                }
            }
            return NONE;
        }

        int whyNot(int point) {
            Dot dot = dot(point);
            if (!dot.kept) {
                return 1;
            }
            int before = neighbor(point, -1);
            int behind = neighbor(point, 1);
            if (before == NONE || behind == NONE) {
                return 2;
            }
            return joined(dots(), before, behind, world.settings[0]) ? 0 : 3;
        }

        int add(int time, int value) {
            range(time, 0, 9999);
            range(value, -999, 999);
            if (world.dots.size() >= 60 || world.dots.containsKey(time)) {
                throw state();
            }
            save();
            world.dots.put(time, new Dot(time, value, true));
            return world.dots.headMap(time).size();
        }

        int correct(int point, int value) {
            Dot dot = dot(point);
            range(value, -999, 999);
            int before = dot.value;
            save();
            dot.value = value;
            return before;
        }

        int drop(int point) {
            if (whyNot(point) != 0) {
                throw state();
            }
            save();
            dot(point).kept = false;
            return keptCount();
        }

        int keep(int point) {
            if (dot(point).kept) {
                throw state();
            }
            save();
            dot(point).kept = true;
            return keptCount();
        }

        int mend() {
            save();
            int before = keptCount();
            while (brokenIn(dots()) > 0) {
                List<Dot> broken = new ArrayList<>();
                for (Dot dot : dots()) {
                    if (broken(dot)) {
                        broken.add(dot);
                    }
                }
                for (Dot dot : broken) {
                    dot.kept = true;
                }
            }
            return keptCount() - before;
        }

        int thin(int way) {
            range(way, 0, 2);
            save();
            for (List<Dot> stretch : stretches()) {
                List<Integer> kept = thinnedBy(way, stretch, world.settings[0]);
                for (int i = 0; i < stretch.size(); i++) {
                    stretch.get(i).kept = kept.contains(i);
                }
            }
            world.thinned++;
            return keptCount();
        }

        int tear(int stretch) {
            List<Dot> list = stretchAt(stretch);
            save();
            for (Dot dot : list) {
                world.dots.remove(dot.time);
            }
            world.torn += list.size();
            return list.size();
        }

        int set(int setting, int value) {
            int before = setting(setting);
            int[] least = {0, 1, 0};
            int[] greatest = {500, 2000, 1};
            range(value, least[setting], greatest[setting]);
            save();
            world.settings[setting] = value;
            return before;
        }

        int setting(int setting) {
            if (setting < 0 || setting > 2) {
                throw new IndexOutOfBoundsException();
            }
            return world.settings[setting];
        }

        int note(int time, int value) {
            range(time, 0, 9999);
            range(value, -999, 999);
            if (world.notes.size() >= 8) {
                throw state();
            }
            save();
            world.notes.add(new int[] {time, value});
            return world.notes.size() - 1;
        }

        int strike() {
            save();
            world.notes.removeIf(this::noteTrue);
            return world.notes.size();
        }

        int append(int code) {
            range(code, 33, 126);
            if (buffer.length() >= 60) {
                throw state();
            }
            buffer.append((char) code);
            return buffer.length();
        }

        int clearBuffer() {
            int length = buffer.length();
            buffer.setLength(0);
            return length;
        }

        int firstError() {
            for (int i = 1; i <= buffer.length(); i++) {
                String start = buffer.substring(0, i);
                boolean good = false;
                for (String end : List.of("", "0", ":0", "0:0")) {
                    good |= ROW.matcher(start + end).matches();
                }
                if (!good) {
                    return i - 1;
                }
            }
            return buffer.length();
        }

        int addAll() {
            if (!ROW.matcher(buffer).matches()) {
                throw argument();
            }
            World next = world.copy();
            for (String text : buffer.toString().split(",")) {
                String[] parts = text.split(":");
                int time = Integer.parseInt(parts[0]);
                if (next.dots.size() >= 60 || next.dots.containsKey(time)) {
                    throw state();
                }
                next.dots.put(time, new Dot(time, Integer.parseInt(parts[1]), true));
            }
            save();
            world = next;
            buffer.setLength(0);
            return world.dots.size();
        }

        int undo() {
            if (saved.isEmpty()) {
                throw state();
            }
            world = saved.removeLast();
            return saved.size();
        }

        int point(int point, int what) {
            Dot dot = dot(point);
            range(what, 0, 7);
            switch (what) {
                case 0: return dot.time;
                case 1: return dot.value;
                case 2: return dot.kept ? 1 : 0;
                case 3: return broken(dot) ? 1 : 0;
                case 4: return stretches().indexOf(stretchOf(dot));
                case 5: return neighbor(point, -1);
                case 6: return neighbor(point, 1);
                default: return whyNot(point);
            }
        }

        int error(int point, int what) {
            Dot dot = dot(point);
            range(what, 0, 1);
            return told(errorOf(dot), what);
        }

        int reading(int time, int what) {
            range(time, 0, 9999);
            range(what, 0, 1);
            return told(readingAt(time), what);
        }

        static int told(Part part, int what) {
            if (part == null) {
                return NONE;
            }
            return (int) (what == 0 ? part.top : part.bottom);
        }

        int stretch(int stretch, int what) {
            List<Dot> list = stretchAt(stretch);
            range(what, 0, 4);
            switch (what) {
                case 0: return dots().indexOf(list.get(0));
                case 1: return list.size();
                case 2:
                    int kept = 0;
                    for (Dot dot : list) {
                        kept += dot.kept ? 1 : 0;
                    }
                    return kept;
                case 3: return brokenIn(list);
                default: return thinnedBy(2, list, world.settings[0]).size();
            }
        }

        int noteAt(int note, int what) {
            if (note < 0 || note >= world.notes.size()) {
                throw new IndexOutOfBoundsException();
            }
            range(what, 0, 2);
            int[] found = world.notes.get(note);
            return what < 2 ? found[what] : noteTrue(found) ? 1 : 0;
        }

        int count(int what) {
            range(what, 0, 10);
            int many = 0;
            switch (what) {
                case 0: return world.dots.size();
                case 1: return keptCount();
                case 2: return brokenIn(dots());
                case 3: return stretches().size();
                case 4: return world.notes.size();
                case 5:
                    for (int[] note : world.notes) {
                        many += noteTrue(note) ? 1 : 0;
                    }
                    return many;
                case 6:
                    for (Dot dot : dots()) {
                        if (!dot.kept && errorOf(dot) != null) {
                            many = Math.max(many, errorOf(dot).roundedUp());
                        }
                    }
                    return many;
                case 7: return world.thinned;
                case 8: return world.torn;
                case 9:
                    for (List<Dot> stretch : stretches()) {
                        stretch.removeIf(dot -> !dot.kept);
                        for (int i = 1; i < stretch.size(); i++) {
                            many = Math.max(many, stretch.get(i).time - stretch.get(i - 1).time);
                        }
                    }
                    return many;
                default: return saved.size();
            }
        }

        long area(boolean all) {
            long sum = 0;
            for (List<Dot> stretch : stretches()) {
                stretch.removeIf(dot -> !dot.kept && !all);
                for (int i = 1; i < stretch.size(); i++) {
                    Dot a = stretch.get(i - 1);
                    Dot b = stretch.get(i);
                    sum += (long) (world.settings[2] == 1 ? 2 * a.value : a.value + b.value) * (b.time - a.time);
                }
            }
            return sum;
        }

        int join(int one, int other) {
            Dot first = dot(one);
            Dot second = dot(other);
            if (other <= one) {
                throw argument();
            }
            if (!stretchOf(first).contains(second)) {
                return NONE;
            }
            int many = 0;
            for (Part error : errors(dots(), one, other)) {
                many += error.atMost(world.settings[0]) ? 1 : 0;
            }
            return many;
        }

        int ifThinned(int way) {
            range(way, 0, 2);
            return thinnedCount(way, world.settings[0]);
        }

        int leastOath(int many) {
            range(many, 0, 60);
            int low = 0;
            int high = 501;
            // with a greater oath more points can be joined, so never more are kept; PromiseTest tries each oath instead
            while (low < high) {
                int middle = (low + high) / 2;
                if (thinnedCount(2, middle) <= many) {
                    high = middle;
                } else {
                    low = middle + 1;
                }
            }
            return low > 500 ? NONE : low;
        }

        int cheapest(int what) {
            range(what, 0, 1);
            int best = NONE;
            Part least = null;
            for (int i = 0; i < world.dots.size(); i++) {
                if (whyNot(i) == 0) {
                    Part greatest = greatest(errors(dots(), neighbor(i, -1), neighbor(i, 1)));
                    if (least == null || greatest.against(least) < 0) {
                        best = i;
                        least = greatest;
                    }
                }
            }
            return best == NONE || what == 0 ? best : least.roundedUp();
        }

        double droppedShare() {
            int many = world.dots.size();
            return many == 0 ? 0.0 : (double) (many - keptCount()) / many;
        }

        long digest() {
            List<Long> row = new ArrayList<>();
            for (int what = 0; what <= 10; what++) {
                row.add((long) count(what));
            }
            for (int i = 0; i <= 2; i++) {
                row.add((long) setting(i));
            }
            for (int i = 0; i < count(0); i++) {
                for (int what = 0; what <= 7; what++) {
                    row.add((long) point(i, what));
                }
                row.add((long) error(i, 0));
                row.add((long) error(i, 1));
            }
            for (int i = 0; i < count(3); i++) {
                for (int what = 0; what <= 4; what++) {
                    row.add((long) stretch(i, what));
                }
            }
            for (int i = 0; i < count(4); i++) {
                for (int what = 0; what <= 2; what++) {
                    row.add((long) noteAt(i, what));
                }
            }
            for (int way = 0; way <= 2; way++) {
                row.add((long) ifThinned(way));
            }
            row.add((long) leastOath(10));
            row.add((long) cheapest(0));
            row.add((long) cheapest(1));
            row.add(area(false));
            row.add(area(true));
            row.add(Double.doubleToLongBits(droppedShare()));
            row.add((long) buffer.length());
            for (int i = 0; i < buffer.length(); i++) {
                row.add((long) buffer.charAt(i));
            }
            long hash = 2381;
            for (long value : row) {
                hash = 31 * hash + value;
            }
            return hash;
        }
    }

    private static final String[] NAMES = {
        "add", "correct", "drop", "keep", "mend", "thin", "tear", "set", "note", "strike", "append", "clearBuffer",
        "firstError", "addAll", "undo", "point", "error", "reading", "stretch", "noteAt", "count", "setting", "area",
        "whyNot", "join", "ifThinned", "leastOath", "cheapest", "droppedShare", "digest"};

    private static String ofProgram(OathDiary x, String name, int a, int b) {
        try {
            switch (name) {
                case "add": return "" + x.add(a, b);
                case "correct": return "" + x.correct(a, b);
                case "drop": return "" + x.drop(a);
                case "keep": return "" + x.keep(a);
                case "mend": return "" + x.mend();
                case "thin": return "" + x.thin(a);
                case "tear": return "" + x.tear(a);
                case "set": return "" + x.set(a, b);
                case "note": return "" + x.note(a, b);
                case "strike": return "" + x.strike();
                case "append": return "" + x.append(a);
                case "clearBuffer": return "" + x.clearBuffer();
                case "firstError": return "" + x.firstError();
                case "addAll": return "" + x.addAll();
                case "undo": return "" + x.undo();
                case "point": return "" + x.point(a, b);
                case "error": return "" + x.error(a, b);
                case "reading": return "" + x.reading(a, b);
                case "stretch": return "" + x.stretch(a, b);
                case "noteAt": return "" + x.noteAt(a, b);
                case "count": return "" + x.count(a);
                case "setting": return "" + x.setting(a);
                case "area": return "" + x.area(a > 0);
                case "whyNot": return "" + x.whyNot(a);
                case "join": return "" + x.join(a, b);
                case "ifThinned": return "" + x.ifThinned(a);
                case "leastOath": return "" + x.leastOath(a);
                case "cheapest": return "" + x.cheapest(a);
                case "droppedShare": return "" + x.droppedShare();
                default: return "" + x.digest();
            }
        } catch (RuntimeException e) {
            return "throws." + e.getClass().getSimpleName();
        }
    }

    private static String ofModel(Model x, String name, int a, int b) {
        try {
            switch (name) {
                case "add": return "" + x.add(a, b);
                case "correct": return "" + x.correct(a, b);
                case "drop": return "" + x.drop(a);
                case "keep": return "" + x.keep(a);
                case "mend": return "" + x.mend();
                case "thin": return "" + x.thin(a);
                case "tear": return "" + x.tear(a);
                case "set": return "" + x.set(a, b);
                case "note": return "" + x.note(a, b);
                case "strike": return "" + x.strike();
                case "append": return "" + x.append(a);
                case "clearBuffer": return "" + x.clearBuffer();
                case "firstError": return "" + x.firstError();
                case "addAll": return "" + x.addAll();
                case "undo": return "" + x.undo();
                case "point": return "" + x.point(a, b);
                case "error": return "" + x.error(a, b);
                case "reading": return "" + x.reading(a, b);
                case "stretch": return "" + x.stretch(a, b);
                case "noteAt": return "" + x.noteAt(a, b);
                case "count": return "" + x.count(a);
                case "setting": return "" + x.setting(a);
                case "area": return "" + x.area(a > 0);
                case "whyNot": return "" + x.whyNot(a);
                case "join": return "" + x.join(a, b);
                case "ifThinned": return "" + x.ifThinned(a);
                case "leastOath": return "" + x.leastOath(a);
                case "cheapest": return "" + x.cheapest(a);
                case "droppedShare": return "" + x.droppedShare();
                default: return "" + x.digest();
            }
        } catch (RuntimeException e) {
            return "throws." + e.getClass().getSimpleName();
        }
    }

    /** Numbers that are the same in each run of this test. */
    private static final class Numbers {
        private long seed;

        Numbers(long seed) {
            this.seed = seed * 7919 + 12345;
        }

        int below(int bound) {
            seed = seed * 6364136223846793005L + 1442695040888963407L;
            return (int) ((seed >>> 33) % bound);
        }

        int from(int least, int greatest) {
            return least + below(greatest - least + 1);
        }

        boolean in(int many) {
            return below(many) == 0;
        }
    }

    private static final int[] WILD = {Integer.MIN_VALUE, -1000000, -1000, -1, 0, 1, 2, 3, 7, 8, 11, 59, 60, 61, 999, 1000, 2001, 9999, 10000, Integer.MAX_VALUE};

    private static int wrong;

    private static final class Run {
        final int number;
        final Numbers numbers;
        final OathDiary program = new OathDiary();
        final Model model = new Model();
        final int times;
        final int swing;
        final boolean smooth;
        // times and values of few kinds: errors alike, errors as great as the oath, times as long as setting 1
        final boolean coarse;
        int calls;
        boolean ended;

        Run(int number) {
            this.number = number;
            numbers = new Numbers(number);
            times = new int[] {40, 120, 600, 3000, 10000}[numbers.below(5)];
            swing = new int[] {3, 12, 40, 200, 999}[numbers.below(5)];
            smooth = numbers.in(2);
            coarse = numbers.in(3);
        }

        String call(String name, int a, int b) {
            if (calls >= 512 || ended) {
                ended = true;
                return "";
            }
            calls++;
            String due = ofModel(model, name, a, b);
            String got = ofProgram(program, name, a, b);
            if (!got.equals(due)) {
                wrong++;
                ended = true;
                System.out.println("run " + number + ", call " + calls + ": " + name + "(" + a + ", " + b + ") answered " + got + ", due is " + due);
            }
            return got;
        }

        int time() {
            if (coarse) {
                return Math.min(9999, numbers.below(70) * (times / 40));
            }
            return numbers.below(times);
        }

        int value(int time) {
            if (coarse) {
                return numbers.from(-2, 2) * (swing / 2);
            }
            int wave = smooth ? (int) (300 * Math.sin(time * 6.0 / times)) : 0;
            return Math.max(-999, Math.min(999, wave + numbers.from(-swing, swing)));
        }

        int some(int many) {
            return numbers.below(Math.max(1, many + (numbers.in(10) ? 1 : 0)));
        }

        void change() {
            int time = time();
            int points = model.world.dots.size();
            switch (numbers.below(16)) {
                case 0: case 1: case 2: case 3: call("add", time, value(time)); break;
                case 4: call("correct", some(points), value(time)); break;
                case 5: case 6: case 7: call("drop", some(points), 0); break;
                case 8: call("keep", some(points), 0); break;
                case 9: call(numbers.in(2) ? "mend" : "strike", 0, 0); break;
                case 10: call("thin", numbers.below(3), 0); break;
                case 11: if (numbers.in(3)) { call("tear", some(model.stretches().size()), 0); } break;
                case 12: change(numbers.below(6)); break;
                case 13: call("note", time, value(time)); break;
                case 14: write(); break;
                default: if (numbers.in(2)) { call("undo", 0, 0); } break;
            }
        }

        void change(int setting) {
            switch (setting) {
                case 0: call("set", 0, coarse ? numbers.below(5) * (swing / 4) : numbers.in(3) ? numbers.below(501) : numbers.below(30)); break;
                case 1: call("set", 1, coarse ? numbers.from(1, 8) * (times / 40) : numbers.from(1, Math.min(2000, 1 + times / 5))); break;
                case 2: call("set", 1, numbers.from(1, 2000)); break;
                default: call("set", 2, numbers.below(2)); break;
            }
        }

        void write() {
            StringBuilder text = new StringBuilder();
            int many = numbers.from(1, 5);
            for (int i = 0; i < many; i++) {
                int time = time();
                text.append(i == 0 ? "" : ",").append(time).append(":").append(value(time));
            }
            if (numbers.in(4)) {
                text.insert(numbers.below(text.length()), ":,-0019".charAt(numbers.below(7)));
            }
            for (int i = 0; i < text.length(); i++) {
                call("append", text.charAt(i), 0);
            }
            call("firstError", 0, 0);
            call("addAll", 0, 0);
            call("clearBuffer", 0, 0);
        }

        void fill() {
            int many = numbers.in(3) ? 100 : numbers.below(60);
            for (int i = 0; i < many; i++) {
                int time = time();
                call("add", time, value(time));
            }
        }

        int wild() {
            return WILD[numbers.below(WILD.length)];
        }

        void go() {
            call("digest", 0, 0);
            call("set", 1, numbers.from(1, Math.min(2000, 1 + times / 4)));
            if (numbers.in(2)) {
                fill();
            }
            while (!ended) {
                change();
                if (numbers.in(3)) {
                    call(NAMES[numbers.below(NAMES.length)], wild(), wild());
                }
                if (numbers.in(3)) {
                    call("reading", time(), numbers.below(2));
                    call("join", some(model.world.dots.size()), some(model.world.dots.size()));
                    call("leastOath", numbers.below(61), 0);
                }
                if (numbers.in(2)) {
                    call("digest", 0, 0);
                } else if (numbers.in(2)) {
                    call(NAMES[15 + numbers.below(15)], some(12), some(12));
                }
            }
        }
    }

    public static void main(String[] args) {
        int runs = args.length > 0 ? Integer.parseInt(args[0]) : 60;
        for (int i = 0; i < runs; i++) {
            new Run(i).go();
        }
        System.out.println(wrong == 0 ? runs + " runs are as the model tells" : wrong + " runs differ: " + Arrays.toString(args));
        if (wrong != 0) {
            System.exit(1);
        }
    }
}
