/** The diary of a thermometer that a miser thins under an oath. */
public final class OathDiary {
    public static final int NONE = -1000000;

    private static final int MOST_POINTS = 60;
    private static final int MOST_NOTES = 8;
    private static final int MOST_CODES = 60;
    private static final int MOST_SAVED = 6;
    private static final int LAST_TIME = 9999;
    private static final int GREATEST_VALUE = 999;

    private static final int OATH = 0;
    private static final int LONGEST = 1;
    private static final int MANNER = 2;
    private static final int SETTINGS = 3;
    private static final int GREATEST_OATH = 500;
    private static final int GREATEST_LONGEST = 2000;

    private static final int FAR = 0;
    private static final int HALVES = 1;
    private static final int FEW = 2;

    private final State now = new State();
    private final Lines lines = new Lines(now);
    private final Thinner thinner = new Thinner(now, lines);
    private final History history = new History();
    private final Text text = new Text();
    private final int[] marked = new int[MOST_POINTS];

    public OathDiary() {
    }

    // ---- points

    public int add(int time, int value) throws IllegalArgumentException, IllegalStateException {
        if (!isTime(time) || !isValue(value)) {
            throw new IllegalArgumentException("time or value out of range");
        }
        if (now.points >= MOST_POINTS || now.hasTime(time)) {
            throw new IllegalStateException("no room, or the time is taken");
        }
        history.remember(now);
        int point = now.insert(time, value);
        pointsChanged();
        return point;
    }

    public int correct(int point, int value) throws IndexOutOfBoundsException, IllegalArgumentException {
        refuseNoPoint(point);
        if (!isValue(value)) {
            throw new IllegalArgumentException("value out of range");
        }
        history.remember(now);
        int previous = now.values[point];
        now.values[point] = value;
        pointsChanged();
        return previous;
    }

    public int drop(int point) throws IndexOutOfBoundsException, IllegalStateException {
        refuseNoPoint(point);
        if (lines.reasonToKeep(point) != 0) {
            throw new IllegalStateException("the point cannot be dropped");
        }
        history.remember(now);
        now.kept[point] = 0;
        return now.keptPoints();
    }

    public int keep(int point) throws IndexOutOfBoundsException, IllegalStateException {
        refuseNoPoint(point);
        if (now.isKept(point)) {
            throw new IllegalStateException("the point is kept");
        }
        history.remember(now);
        now.kept[point] = 1;
        return now.keptPoints();
    }

    public int mend() {
        history.remember(now);
        int before = now.keptPoints();
        // each round but the last one keeps a point more, so there are never more rounds than points
        for (int round = 0; round < MOST_POINTS; round++) {
            if (keepBroken() == 0) {
                break;
            }
        }
        return now.keptPoints() - before;
    }

    public int thin(int way) throws IllegalArgumentException {
        refuseNoWay(way);
        history.remember(now);
        int many = thinner.choose(way);
        for (int i = 0; i < now.points; i++) {
            now.kept[i] = thinner.chosen[i];
        }
        now.thinned++;
        return many;
    }

    public int tear(int stretch) throws IndexOutOfBoundsException {
        refuseNoStretch(stretch);
        history.remember(now);
        int size = now.sizeOf(stretch);
        now.removeRun(now.firstOf(stretch), size);
        now.torn += size;
        pointsChanged();
        return size;
    }

    public int set(int setting, int value) throws IndexOutOfBoundsException, IllegalArgumentException {
        refuseNoSetting(setting);
        if (!isSettingValue(setting, value)) {
            throw new IllegalArgumentException("value out of range");
        }
        history.remember(now);
        int previous = now.settings[setting];
        now.settings[setting] = value;
        pointsChanged();
        return previous;
    }

    // ---- the heir

    public int note(int time, int value) throws IllegalArgumentException, IllegalStateException {
        if (!isTime(time) || !isValue(value)) {
            throw new IllegalArgumentException("time or value out of range");
        }
        if (now.notes < 0 || now.notes >= MOST_NOTES) {
            throw new IllegalStateException("no room for a note");
        }
        history.remember(now);
        now.noteTimes[now.notes] = time;
        now.noteValues[now.notes] = value;
        now.notes++;
        return now.notes - 1;
    }

    public int strike() {
        history.remember(now);
        int left = 0;
        for (int i = 0; i < now.notes; i++) {
            if (!lines.isTrue(i)) {
                now.noteTimes[left] = now.noteTimes[i];
                now.noteValues[left] = now.noteValues[i];
                left++;
            }
        }
        now.notes = left;
        return left;
    }

    // ---- texts

    public int append(int code) throws IllegalArgumentException, IllegalStateException {
        if (code < 33 || code > 126) {
            throw new IllegalArgumentException("code out of range");
        }
        if (text.length >= MOST_CODES) {
            throw new IllegalStateException("the buffer is full");
        }
        text.push(code);
        return text.length;
    }

    public int clearBuffer() {
        int length = text.length;
        text.length = 0;
        return length;
    }

    public int firstError() {
        return text.goodLength();
    }

    public int addAll() throws IllegalArgumentException, IllegalStateException {
        if (!text.isRow()) {
            throw new IllegalArgumentException("the buffer is not a row of points");
        }
        text.readRow();
        if (now.points + text.parsed > MOST_POINTS || !parsedTimesAreFree()) {
            throw new IllegalStateException("no room, or a time is taken");
        }
        history.remember(now);
        for (int i = 0; i < text.parsed; i++) {
            now.insert(text.times[i], text.values[i]);
        }
        text.length = 0;
        pointsChanged();
        return now.points;
    }

    public int undo() throws IllegalStateException {
        if (history.size == 0) {
            throw new IllegalStateException("nothing is saved");
        }
        history.restore(now);
        pointsChanged();
        return history.size;
    }

    // ---- what there is

    public int point(int point, int what) throws IndexOutOfBoundsException, IllegalArgumentException {
        refuseNoPoint(point);
        refuseOutside(what, 7);
        switch (what) {
            case 0: return now.times[point];
            case 1: return now.values[point];
            case 2: return now.kept[point];
            case 3: return lines.isBroken(point) ? 1 : 0;
            case 4: return now.stretches[point];
            case 5: return now.earlierKept(point);
            case 6: return now.laterKept(point);
            default: return lines.reasonToKeep(point);
        }
    }

    public int error(int point, int what) throws IndexOutOfBoundsException, IllegalArgumentException {
        refuseNoPoint(point);
        refuseOutside(what, 1);
        if (!lines.findError(point)) {
            return NONE;
        }
        return what == 0 ? lines.numerator : lines.denominator;
    }

    public int reading(int time, int what) throws IllegalArgumentException {
        if (!isTime(time)) {
            throw new IllegalArgumentException("time out of range");
        }
        refuseOutside(what, 1);
        if (!lines.findReading(time)) {
            return NONE;
        }
        return what == 0 ? lines.numerator : lines.denominator;
    }

    public int stretch(int stretch, int what) throws IndexOutOfBoundsException, IllegalArgumentException {
        refuseNoStretch(stretch);
        refuseOutside(what, 4);
        switch (what) {
            case 0: return now.firstOf(stretch);
            case 1: return now.sizeOf(stretch);
            case 2: return now.keptOf(stretch);
            case 3: return brokenAmong(now.firstOf(stretch), now.sizeOf(stretch));
            default: return thinner.fewestOf(stretch);
        }
    }

    public int noteAt(int note, int what) throws IndexOutOfBoundsException, IllegalArgumentException {
        if (note < 0 || note >= now.notes) {
            throw new IndexOutOfBoundsException("no such note");
        }
        refuseOutside(what, 2);
        switch (what) {
            case 0: return now.noteTimes[note];
            case 1: return now.noteValues[note];
            default: return lines.isTrue(note) ? 1 : 0;
        }
    }

    public int count(int what) throws IllegalArgumentException {
        refuseOutside(what, 10);
        switch (what) {
            case 0: return now.points;
            case 1: return now.keptPoints();
            case 2: return brokenAmong(0, now.points);
            case 3: return now.stretchCount();
            case 4: return now.notes;
            case 5: return trueNotes();
            case 6: return greatestError();
            case 7: return now.thinned;
            case 8: return now.torn;
            case 9: return longestStep();
            default: return history.size;
        }
    }

    public int setting(int setting) throws IndexOutOfBoundsException {
        refuseNoSetting(setting);
        return now.settings[setting];
    }

    public long area(boolean all) {
        long sum = 0;
        int previous = NONE;
        for (int i = 0; i < now.points; i++) {
            if (all || now.isKept(i)) {
                sum += areaBetween(previous, i);
                previous = i;
            }
        }
        return sum;
    }

    // ---- what would be; nothing is changed

    public int whyNot(int point) throws IndexOutOfBoundsException {
        refuseNoPoint(point);
        return lines.reasonToKeep(point);
    }

    public int join(int one, int other) throws IndexOutOfBoundsException, IllegalArgumentException {
        refuseNoPoint(one);
        refuseNoPoint(other);
        if (other <= one) {
            throw new IllegalArgumentException("the other point is not greater");
        }
        if (!now.sameStretch(one, other)) {
            return NONE;
        }
        int within = 0;
        for (int i = one + 1; i < other; i++) {
            if (lines.isWithin(one, other, i)) {
                within++;
            }
        }
        return within;
    }

    public int ifThinned(int way) throws IllegalArgumentException {
        refuseNoWay(way);
        return thinner.choose(way);
    }

    public int leastOath(int many) throws IllegalArgumentException {
        refuseOutside(many, MOST_POINTS);
        int least = thinner.leastOathFor(many);
        return least <= GREATEST_OATH ? least : NONE;
    }

    public int cheapest(int what) throws IllegalArgumentException {
        refuseOutside(what, 1);
        int point = lines.leastMissed();
        if (point == NONE || what == 0) {
            return point;
        }
        lines.findWorst(now.earlierKept(point), now.laterKept(point));
        return roundedUp(lines.numerator, lines.denominator);
    }

    public double droppedShare() {
        if (now.points == 0) {
            return 0.0;
        }
        return (double) (now.points - now.keptPoints()) / (double) now.points;
    }

    public long digest() {
        long hash = 2381;
        for (int what = 0; what <= 10; what++) {
            hash = 31 * hash + count(what);
        }
        for (int i = 0; i < SETTINGS; i++) {
            hash = 31 * hash + now.settings[i];
        }
        hash = hashPoints(hash);
        hash = hashStretches(hash);
        hash = hashNotes(hash);
        for (int way = FAR; way <= FEW; way++) {
            hash = 31 * hash + ifThinned(way);
        }
        hash = 31 * hash + leastOath(10);
        hash = 31 * hash + cheapest(0);
        hash = 31 * hash + cheapest(1);
        hash = 31 * hash + area(false);
        hash = 31 * hash + area(true);
        hash = 31 * hash + bitsOf(droppedShare());
        return hashText(hash);
    }

    // ---- tests of arguments

    private static boolean isTime(int time) {
        return time >= 0 && time <= LAST_TIME;
    }

    private static boolean isValue(int value) {
        return value >= -GREATEST_VALUE && value <= GREATEST_VALUE;
    }

    private static boolean isSettingValue(int setting, int value) {
        if (setting == OATH) {
            return value >= 0 && value <= GREATEST_OATH;
        }
        if (setting == LONGEST) {
            return value >= 1 && value <= GREATEST_LONGEST;
        }
        return value == 0 || value == 1;
    }

    private static void refuseOutside(int number, int greatest) {
        if (number < 0 || number > greatest) {
            throw new IllegalArgumentException("number out of range");
        }
    }

    private static void refuseNoWay(int way) {
        refuseOutside(way, FEW);
    }

    private static void refuseNoSetting(int setting) {
        if (setting < 0 || setting >= SETTINGS) {
            throw new IndexOutOfBoundsException("no such setting");
        }
    }

    private void refuseNoPoint(int point) {
        if (!now.hasPoint(point)) {
            throw new IndexOutOfBoundsException("no such point");
        }
    }

    private void refuseNoStretch(int stretch) {
        if (stretch < 0 || stretch >= now.stretchCount()) {
            throw new IndexOutOfBoundsException("no such stretch");
        }
    }

    private boolean parsedTimesAreFree() {
        for (int i = 0; i < text.parsed; i++) {
            if (now.hasTime(text.times[i])) {
                return false;
            }
            for (int j = 0; j < i; j++) {
                if (text.times[j] == text.times[i]) {
                    return false;
                }
            }
        }
        return true;
    }

    // ---- changes

    private void pointsChanged() {
        now.numberStretches();
        thinner.forget();
    }

    /** Keeps the points that are broken now; all are found before one is kept. */
    private int keepBroken() {
        for (int i = 0; i < now.points; i++) {
            marked[i] = lines.isBroken(i) ? 1 : 0;
        }
        int many = 0;
        for (int i = 0; i < now.points; i++) {
            if (marked[i] == 1) {
                now.kept[i] = 1;
                many++;
            }
        }
        return many;
    }

    // ---- sums

    private int brokenAmong(int first, int many) {
        int broken = 0;
        for (int i = 0; i < many; i++) {
            if (lines.isBroken(first + i)) {
                broken++;
            }
        }
        return broken;
    }

    private int trueNotes() {
        int many = 0;
        for (int i = 0; i < now.notes; i++) {
            if (lines.isTrue(i)) {
                many++;
            }
        }
        return many;
    }

    private int greatestError() {
        int greatest = 0;
        for (int i = 0; i < now.points; i++) {
            if (!now.isKept(i) && lines.findError(i)) {
                greatest = Math.max(greatest, roundedUp(lines.numerator, lines.denominator));
            }
        }
        return greatest;
    }

    private int longestStep() {
        int longest = 0;
        int previous = NONE;
        for (int i = 0; i < now.points; i++) {
            if (now.isKept(i)) {
                if (now.sameStretch(previous, i)) {
                    longest = Math.max(longest, now.times[i] - now.times[previous]);
                }
                previous = i;
            }
        }
        return longest;
    }

    private long areaBetween(int one, int other) {
        if (!now.sameStretch(one, other)) {
            return 0;
        }
        long first = now.values[one];
        long second = now.isStep() ? first : now.values[other];
        return (first + second) * (now.times[other] - now.times[one]);
    }

    private static int roundedUp(int numerator, int denominator) {
        return denominator > 0 ? (numerator + denominator - 1) / denominator : 0;
    }

    // ---- parts of the hash

    private long hashPoints(long start) {
        long hash = start;
        for (int i = 0; i < now.points; i++) {
            for (int what = 0; what <= 7; what++) {
                hash = 31 * hash + point(i, what);
            }
            hash = 31 * hash + error(i, 0);
            hash = 31 * hash + error(i, 1);
        }
        return hash;
    }

    private long hashStretches(long start) {
        long hash = start;
        int many = now.stretchCount();
        for (int i = 0; i < many; i++) {
            for (int what = 0; what <= 4; what++) {
                hash = 31 * hash + stretch(i, what);
            }
        }
        return hash;
    }

    private long hashNotes(long start) {
        long hash = start;
        for (int i = 0; i < now.notes; i++) {
            for (int what = 0; what <= 2; what++) {
                hash = 31 * hash + noteAt(i, what);
            }
        }
        return hash;
    }

    private long hashText(long start) {
        long hash = 31 * start + text.length;
        for (int i = 0; i < text.length; i++) {
            hash = 31 * hash + text.codes[i];
        }
        return hash;
    }

    /** The bits of a share from 0 to 1; doubling and taking 1 off are exact, so no bit is lost. */
    private static long bitsOf(double share) {
        if (!(share > 0.0)) {
            return 0;
        }
        double rest = share;
        long exponent = 1023;
        for (int i = 0; i < 64 && rest < 1.0; i++) {
            rest = rest * 2.0;
            exponent--;
        }
        return (exponent << 52) + (long) ((rest - 1.0) * 4503599627370496.0);
    }

    /** All that undo brings back. */
    private static final class State {
        final int[] times = new int[MOST_POINTS];
        final int[] values = new int[MOST_POINTS];
        final int[] kept = new int[MOST_POINTS];
        final int[] stretches = new int[MOST_POINTS];
        final int[] settings = new int[SETTINGS];
        final int[] noteTimes = new int[MOST_NOTES];
        final int[] noteValues = new int[MOST_NOTES];
        int points;
        int notes;
        int thinned;
        int torn;

        State() {
            settings[OATH] = 10;
            settings[LONGEST] = 100;
        }

        void copyFrom(State other) {
            System.arraycopy(other.times, 0, times, 0, MOST_POINTS);
            System.arraycopy(other.values, 0, values, 0, MOST_POINTS);
            System.arraycopy(other.kept, 0, kept, 0, MOST_POINTS);
            System.arraycopy(other.stretches, 0, stretches, 0, MOST_POINTS);
            System.arraycopy(other.settings, 0, settings, 0, SETTINGS);
            System.arraycopy(other.noteTimes, 0, noteTimes, 0, MOST_NOTES);
            System.arraycopy(other.noteValues, 0, noteValues, 0, MOST_NOTES);
            points = other.points;
            notes = other.notes;
            thinned = other.thinned;
            torn = other.torn;
        }

        boolean hasPoint(int point) {
            return point >= 0 && point < points;
        }

        boolean isKept(int point) {
            return hasPoint(point) && kept[point] == 1;
        }

        boolean isStep() {
            return settings[MANNER] == 1;
        }

        /** The first point that is not ahead of the time; the number of points if there is none. */
        int placeOf(int time) {
            for (int i = 0; i < points; i++) {
                if (times[i] >= time) {
                    return i;
                }
            }
            return points;
        }

        boolean hasTime(int time) {
            int place = placeOf(time);
            return hasPoint(place) && times[place] == time;
        }

        int insert(int time, int value) {
            if (points >= MOST_POINTS) {
                return NONE;
            }
            int place = placeOf(time);
            for (int i = points; i > place; i--) {
                copyPoint(i - 1, i);
            }
            times[place] = time;
            values[place] = value;
            kept[place] = 1;
            points++;
            return place;
        }

        void removeRun(int first, int many) {
            if (first < 0 || many < 0 || first + many > points) {
                return;
            }
            for (int i = first + many; i < points; i++) {
                copyPoint(i, i - many);
            }
            points -= many;
        }

        private void copyPoint(int from, int to) {
            if (from >= 0 && from < MOST_POINTS && to >= 0 && to < MOST_POINTS) {
                times[to] = times[from];
                values[to] = values[from];
                kept[to] = kept[from];
            }
        }

        void numberStretches() {
            int stretch = 0;
            for (int i = 0; i < points; i++) {
                if (i > 0 && times[i] - times[i - 1] > settings[LONGEST]) {
                    stretch++;
                }
                stretches[i] = stretch;
            }
        }

        int stretchCount() {
            return hasPoint(points - 1) ? stretches[points - 1] + 1 : 0;
        }

        boolean sameStretch(int one, int other) {
            return one >= 0 && one < points && other >= 0 && other < points && stretches[one] == stretches[other];
        }

        boolean beginsStretch(int point) {
            return !sameStretch(point - 1, point);
        }

        boolean endsStretch(int point) {
            return !sameStretch(point, point + 1);
        }

        int firstOf(int stretch) {
            for (int i = 0; i < points; i++) {
                if (stretches[i] == stretch) {
                    return i;
                }
            }
            return NONE;
        }

        int sizeOf(int stretch) {
            int size = 0;
            for (int i = 0; i < points; i++) {
                if (stretches[i] == stretch) {
                    size++;
                }
            }
            return size;
        }

        int keptOf(int stretch) {
            int many = 0;
            for (int i = 0; i < points; i++) {
                if (stretches[i] == stretch && kept[i] == 1) {
                    many++;
                }
            }
            return many;
        }

        int keptPoints() {
            int many = 0;
            for (int i = 0; i < points; i++) {
                many += kept[i];
            }
            return many;
        }

        /** The latest kept point with a number below this one, in whichever stretch. */
        int keptBelow(int place) {
            for (int i = Math.min(place, points) - 1; i >= 0; i--) {
                if (kept[i] == 1) {
                    return i;
                }
            }
            return NONE;
        }

        /** The earliest kept point with this number or a greater one, in whichever stretch. */
        int keptFrom(int place) {
            for (int i = Math.max(place, 0); i < points; i++) {
                if (kept[i] == 1) {
                    return i;
                }
            }
            return NONE;
        }

        int earlierKept(int point) {
            int found = keptBelow(point);
            return sameStretch(found, point) ? found : NONE;
        }

        int laterKept(int point) {
            int found = keptFrom(point + 1);
            return sameStretch(point, found) ? found : NONE;
        }
    }

    /** Readings, and errors of points between two others of their stretch. */
    private static final class Lines {
        private final State state;
        // the fraction that the latest find found
        int numerator;
        int denominator;

        Lines(State state) {
            this.state = state;
        }

        /** Finds the point between two others with the greatest error, if only these two were kept; NONE without any. */
        int findWorst(int one, int other) {
            numerator = 0;
            denominator = 1;
            if (!state.sameStretch(one, other)) {
                return NONE;
            }
            int[] times = state.times;
            int[] values = state.values;
            boolean step = state.isStep();
            int span = step ? 1 : times[other] - times[one];
            int rise = step ? 0 : values[other] - values[one];
            int time = times[one];
            int value = values[one];
            int worst = NONE;
            int greatest = -1;
            for (int i = one + 1; i < other; i++) {
                int miss = (values[i] - value) * span - rise * (times[i] - time);
                if (miss < 0) {
                    miss = -miss;
                }
                if (miss > greatest) {
                    greatest = miss;
                    worst = i;
                }
            }
            numerator = Math.max(greatest, 0);
            denominator = span;
            return worst;
        }

        boolean canJoin(int one, int other) {
            findWorst(one, other);
            return state.sameStretch(one, other) && numerator <= state.settings[OATH] * denominator;
        }

        /** Finds the error that a point between two others would have, if only these two were kept. */
        boolean findMiss(int one, int other, int point) {
            numerator = 0;
            denominator = 1;
            if (!state.sameStretch(one, other) || !state.sameStretch(one, point)) {
                return false;
            }
            boolean step = state.isStep();
            int rise = step ? 0 : state.values[other] - state.values[one];
            int above = state.values[point] - state.values[one];
            denominator = step ? 1 : state.times[other] - state.times[one];
            numerator = Math.abs(above * denominator - rise * (state.times[point] - state.times[one]));
            return true;
        }

        boolean isWithin(int one, int other, int point) {
            return findMiss(one, other, point) && numerator <= state.settings[OATH] * denominator;
        }

        boolean isBroken(int point) {
            if (state.isKept(point)) {
                return false;
            }
            boolean found = findMiss(state.earlierKept(point), state.laterKept(point), point);
            return !found || numerator > state.settings[OATH] * denominator;
        }

        int reasonToKeep(int point) {
            if (!state.isKept(point)) {
                return 1;
            }
            int before = state.earlierKept(point);
            int behind = state.laterKept(point);
            if (before == NONE || behind == NONE) {
                return 2;
            }
            return canJoin(before, behind) ? 0 : 3;
        }

        /** Finds the error of a point, in lowest terms; false without a reading. */
        boolean findError(int point) {
            if (state.isKept(point)) {
                numerator = 0;
                denominator = 1;
                return true;
            }
            boolean found = findMiss(state.earlierKept(point), state.laterKept(point), point);
            shorten();
            return found;
        }

        /** Finds the reading at a time, in lowest terms; false without one. */
        boolean findReading(int time) {
            int place = state.placeOf(time);
            if (state.isKept(place) && state.times[place] == time) {
                numerator = state.values[place];
                denominator = 1;
                return true;
            }
            int before = state.keptBelow(place);
            int behind = state.keptFrom(place);
            if (!state.sameStretch(before, behind)) {
                return false;
            }
            boolean step = state.isStep();
            int rise = step ? 0 : state.values[behind] - state.values[before];
            denominator = step ? 1 : state.times[behind] - state.times[before];
            numerator = state.values[before] * denominator + rise * (time - state.times[before]);
            shorten();
            return true;
        }

        boolean isTrue(int note) {
            if (note < 0 || note >= state.notes || !findReading(state.noteTimes[note])) {
                return false;
            }
            return Math.abs(state.noteValues[note] * denominator - numerator) <= state.settings[OATH] * denominator;
        }

        /** The point that can be dropped with the least greatest error between its neighbors; NONE without any. */
        int leastMissed() {
            int best = NONE;
            long bestTop = 0;
            long bestBottom = 1;
            for (int i = 0; i < state.points; i++) {
                if (reasonToKeep(i) == 0) {
                    findWorst(state.earlierKept(i), state.laterKept(i));
                    long top = numerator;
                    long bottom = denominator;
                    // long, for across two spans the products outgrow an int
                    if (best == NONE || top * bestBottom < bestTop * bottom) {
                        best = i;
                        bestTop = top;
                        bestBottom = bottom;
                    }
                }
            }
            return best;
        }

        private void shorten() {
            int divisor = commonDivisor(Math.abs(numerator), denominator);
            if (divisor > 0) {
                numerator /= divisor;
                denominator /= divisor;
            }
        }

        private static int commonDivisor(int one, int other) {
            int greater = one;
            int lesser = other;
            // Euclid takes fewer than 50 turns for any two ints
            for (int turn = 0; turn < 50 && lesser != 0; turn++) {
                int rest = greater % lesser;
                greater = lesser;
                lesser = rest;
            }
            return greater;
        }
    }

    /** The three ways to thin; what they would keep stands in chosen. */
    private static final class Thinner {
        private final State state;
        private final Lines lines;
        final int[] chosen = new int[MOST_POINTS];
        // from each point to the last one of its stretch, both kept: the fewest points
        private final int[] fewest = new int[MOST_POINTS];
        // for each two points of a stretch the least oath that joins them; kept over calls, for it costs most of all
        private final int[] needs = new int[MOST_POINTS * MOST_POINTS];
        private boolean fresh;

        Thinner(State state, Lines lines) {
            this.state = state;
            this.lines = lines;
        }

        void forget() {
            fresh = false;
        }

        /** Chooses the points that this way keeps, and returns how many. */
        int choose(int way) {
            findNeeds();
            int oath = state.settings[OATH];
            if (way == FEW) {
                findFewest(oath);
            }
            for (int i = 0; i < state.points; i++) {
                chosen[i] = state.beginsStretch(i) || state.endsStretch(i) ? 1 : 0;
            }
            int many = 0;
            for (int i = 0; i < state.points; i++) {
                if (chosen[i] == 1) {
                    many++;
                    if (way == HALVES) {
                        halveBehind(i, oath);
                    } else {
                        joinBehind(i, way, oath);
                    }
                }
            }
            return many;
        }

        int fewestOf(int stretch) {
            findNeeds();
            findFewest(state.settings[OATH]);
            int first = state.firstOf(stretch);
            return state.hasPoint(first) ? fewest[first] : 0;
        }

        /** Finds the least oath, 0 to 511, that keeps at most so many points; a greater oath never keeps more. */
        int leastOathFor(int many) {
            findNeeds();
            int least = 0;
            for (int step = 256; step > 0; step /= 2) {
                if (findFewest(least + step - 1) > many) {
                    least += step;
                }
            }
            return least;
        }

        /** Chooses the latest point that this one can be joined with, by way few of those that lead to the fewest. */
        private void joinBehind(int point, int way, int oath) {
            int latest = NONE;
            for (int i = point + 1; i < state.points && state.sameStretch(point, i); i++) {
                if (needs[cell(point, i)] <= oath && (way == FAR || fewest[i] + 1 == fewest[point])) {
                    latest = i;
                }
            }
            if (state.hasPoint(latest)) {
                chosen[latest] = 1;
            }
        }

        /** Chooses points until this one can be joined with the chosen one next to it. */
        private void halveBehind(int point, int oath) {
            for (int turn = 0; turn < MOST_POINTS; turn++) {
                int next = chosenBehind(point);
                if (!state.sameStretch(point, next) || needs[cell(point, next)] <= oath) {
                    return;
                }
                int worst = lines.findWorst(point, next);
                if (!state.hasPoint(worst)) {
                    return;
                }
                chosen[worst] = 1;
            }
        }

        private int chosenBehind(int point) {
            for (int i = Math.max(point + 1, 0); i < state.points; i++) {
                if (chosen[i] == 1) {
                    return i;
                }
            }
            return NONE;
        }

        private static int cell(int one, int other) {
            boolean good = one >= 0 && one < MOST_POINTS && other >= 0 && other < MOST_POINTS;
            return good ? one * MOST_POINTS + other : 0;
        }

        /** Fills fewest, and returns the fewest points of all stretches. */
        private int findFewest(int oath) {
            int sum = 0;
            for (int i = state.points - 1; i >= 0; i--) {
                int behind = fewestBehind(i, oath);
                fewest[i] = behind + 1;
                if (state.beginsStretch(i)) {
                    sum += fewest[i];
                }
            }
            return sum;
        }

        private int fewestBehind(int point, int oath) {
            if (!state.hasPoint(point)) {
                return 0;
            }
            int own = state.stretches[point];
            int row = point * MOST_POINTS;
            int least = 0;
            for (int i = point + 1; i < state.points && state.stretches[i] == own; i++) {
                if (needs[row + i] <= oath && (least == 0 || fewest[i] < least)) {
                    least = fewest[i];
                }
            }
            return least;
        }

        private void findNeeds() {
            if (fresh) {
                return;
            }
            for (int i = 0; i < state.points; i++) {
                for (int j = i + 1; j < state.points && state.sameStretch(i, j); j++) {
                    lines.findWorst(i, j);
                    needs[cell(i, j)] = roundedUp(lines.numerator, lines.denominator);
                }
            }
            fresh = true;
        }
    }

    /** The latest saved states, in a ring of rows that are made once. */
    private static final class History {
        private final State[] rows = new State[MOST_SAVED];
        private int oldest;
        int size;

        History() {
            for (int i = 0; i < MOST_SAVED; i++) {
                rows[i] = new State();
            }
        }

        void remember(State state) {
            if (size == MOST_SAVED) {
                oldest = (oldest + 1) % MOST_SAVED;
                size--;
            }
            State row = rowAt(oldest + size);
            if (row != null) {
                row.copyFrom(state);
                size++;
            }
        }

        void restore(State state) {
            if (size == 0) {
                return;
            }
            size--;
            State row = rowAt(oldest + size);
            if (row != null) {
                state.copyFrom(row);
            }
        }

        private State rowAt(int place) {
            int index = Math.floorMod(place, MOST_SAVED);
            return index >= 0 && index < rows.length ? rows[index] : null;
        }
    }

    /** The buffer, and the row of points in it. */
    private static final class Text {
        private static final int WRONG = -1;
        private static final int START = 0;
        private static final int TIME_ZERO = 1;
        private static final int TIME_ONE_DIGIT = 2;
        private static final int TIME_FOUR_DIGITS = 5;
        private static final int COLON = 6;
        private static final int MINUS = 7;
        private static final int VALUE_ZERO = 8;
        private static final int VALUE_ONE_DIGIT = 9;
        private static final int VALUE_THREE_DIGITS = 11;

        final int[] codes = new int[MOST_CODES];
        int length;
        // what readRow has read
        final int[] times = new int[MOST_CODES];
        final int[] values = new int[MOST_CODES];
        int parsed;

        void push(int code) {
            if (length >= 0 && length < MOST_CODES) {
                codes[length] = code;
                length++;
            }
        }

        /** The number of characters ahead of the first syntax error. */
        int goodLength() {
            int place = START;
            for (int i = 0; i < length; i++) {
                place = placeAfter(place, codes[i]);
                if (place == WRONG) {
                    return i;
                }
            }
            return length;
        }

        boolean isRow() {
            int place = START;
            for (int i = 0; i < length && place != WRONG; i++) {
                place = placeAfter(place, codes[i]);
            }
            return place >= VALUE_ZERO;
        }

        /** Reads the points of a buffer that is a complete row. */
        void readRow() {
            parsed = 0;
            int time = 0;
            int number = 0;
            int sign = 1;
            for (int i = 0; i < length; i++) {
                int code = codes[i];
                if (code == ':') {
                    time = number;
                    number = 0;
                    sign = 1;
                } else if (code == '-') {
                    sign = -1;
                } else if (code == ',') {
                    takePoint(time, sign * number);
                    number = 0;
                } else {
                    number = 10 * number + code - '0';
                }
            }
            takePoint(time, sign * number);
        }

        private void takePoint(int time, int value) {
            if (parsed >= 0 && parsed < MOST_CODES) {
                times[parsed] = time;
                values[parsed] = value;
                parsed++;
            }
        }

        private static int placeAfter(int place, int code) {
            if (place == START) {
                return placeAfterFirstDigit(code, TIME_ZERO, TIME_ONE_DIGIT);
            }
            if (place <= TIME_FOUR_DIGITS) {
                if (code == ':') {
                    return COLON;
                }
                boolean full = place == TIME_ZERO || place == TIME_FOUR_DIGITS;
                return !full && isDigit(code) ? place + 1 : WRONG;
            }
            if (place == COLON && code == '-') {
                return MINUS;
            }
            if (place <= MINUS) {
                return placeAfterFirstDigit(code, VALUE_ZERO, VALUE_ONE_DIGIT);
            }
            if (code == ',') {
                return START;
            }
            boolean full = place == VALUE_ZERO || place == VALUE_THREE_DIGITS;
            return !full && isDigit(code) ? place + 1 : WRONG;
        }

        private static int placeAfterFirstDigit(int code, int zero, int other) {
            if (code == '0') {
                return zero;
            }
            return isDigit(code) ? other : WRONG;
        }

        private static boolean isDigit(int code) {
            return code >= '0' && code <= '9';
        }
    }
}
