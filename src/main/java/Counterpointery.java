import java.util.NoSuchElementException;

/** A given line and one against it: faults by laws with weights, the best line, exchange and canons. */
public final class Counterpointery {
    private final Ground ground;
    private final Line line;
    private final Laws laws;
    /** Made at the first search only, because its rows are long. */
    private Search search;

    public Counterpointery() {
        ground = new Ground();
        line = new Line(ground);
        laws = new Laws();
    }

    // ---- lines

    public int given(int note) throws IllegalArgumentException, IllegalStateException {
        requireNote(note);
        if (ground.size() >= Ground.MOST) {
            throw new IllegalStateException("the given line is full");
        }
        ground.append(note);
        line.stretch(0);
        return ground.size();
    }

    public int other(int note) throws IllegalArgumentException, IllegalStateException {
        requireNote(note);
        if (line.isFull()) {
            throw new IllegalStateException("the other line is full");
        }
        line.append(note);
        return line.length();
    }

    public int change(int index, int note) throws IndexOutOfBoundsException, IllegalArgumentException {
        requireIndex(index);
        requireNote(note);
        int before = line.toneAt(index);
        line.put(index, note);
        return before;
    }

    public int clear(boolean given) {
        int before = line.length();
        line.stretch(0);
        if (given) {
            ground.empty();
        }
        return before;
    }

    public int ratio(int ratio) throws IllegalArgumentException {
        if (ratio != 1 && ratio != 2 && ratio != 4) {
            throw new IllegalArgumentException("no such ratio");
        }
        int before = ground.perGiven();
        ground.setPerGiven(ratio);
        line.stretch(0);
        return before;
    }

    public boolean lower(boolean isLower) {
        boolean before = ground.isBelow();
        ground.setBelow(isLower);
        return before;
    }

    public boolean feign(boolean feigns) {
        boolean before = ground.isFeigning();
        ground.setFeigning(feigns);
        return before;
    }

    public int notes() {
        return line.length();
    }

    public int noteAt(int index) throws IndexOutOfBoundsException {
        requireIndex(index);
        return line.toneAt(index);
    }

    public int pitch(int index) throws IndexOutOfBoundsException {
        requireIndex(index);
        return line.heightAt(index);
    }

    public char interval(int index) throws IndexOutOfBoundsException {
        requireIndex(index);
        return Tone.signOf(line.gapAt(index));
    }

    // ---- laws and faults

    public int setLaw(char law, int weight) throws IllegalArgumentException {
        int which = requiredLaw(law);
        if (weight < 0 || weight > Laws.FORBIDDING) {
            throw new IllegalArgumentException("no such weight");
        }
        int before = laws.weightOf(which);
        laws.setWeight(which, weight);
        return before;
    }

    public int weight(char law) throws IllegalArgumentException {
        int which = requiredLaw(law);
        return laws.weightOf(which);
    }

    public int style(int style) throws IllegalArgumentException {
        if (style < 0 || style >= Laws.STYLE_COUNT) {
            throw new IllegalArgumentException("no such style");
        }
        return laws.adopt(style);
    }

    public int faults() {
        int active = laws.weighing(1);
        int total = 0;
        for (int i = 0; i < line.length(); i++) {
            total += Integer.bitCount(line.faultsAt(i) & active);
        }
        return total;
    }

    public int faultAt(int index) throws IndexOutOfBoundsException {
        return requiredFault(index) / Laws.COUNT;
    }

    public char faultOf(int index) throws IndexOutOfBoundsException {
        return Laws.signOf(requiredFault(index) % Laws.COUNT);
    }

    public int cost() {
        return line.costBetween(laws, 0, line.length() - 1);
    }

    public boolean isGood() {
        return line.isWhole() && line.isFree(laws.weighing(Laws.FORBIDDING));
    }

    public int mend() throws IllegalStateException, NoSuchElementException {
        requireWhole();
        int bestIndex = -1;
        int bestNote = 0;
        int bestGain = 0;
        for (int index = 0; index < line.length(); index++) {
            int own = line.toneAt(index);
            int before = line.costAround(laws, index);
            for (int note = 0; note < Tone.COUNT; note++) {
                line.put(index, note);
                int gain = before - line.costAround(laws, index);
                if (gain > bestGain) {
                    bestGain = gain;
                    bestIndex = index;
                    bestNote = note;
                }
            }
            line.put(index, own);
        }
        if (bestIndex < 0) {
            throw new NoSuchElementException("no change makes the cost less");
        }
        line.put(bestIndex, bestNote);
        return bestIndex;
    }

    // ---- search

    public int range(int low, int high) throws IllegalArgumentException {
        requireNote(low);
        requireNote(high);
        if (high < low || high - low >= Search.WIDEST) {
            throw new IllegalArgumentException("no such range");
        }
        ground.setRange(low, high);
        return ground.width();
    }

    public int find() throws IllegalStateException, UnsupportedOperationException, NoSuchElementException {
        requireSearchable();
        Search ready = readySearch();
        int forbidden = laws.weighing(Laws.FORBIDDING);
        int least = ready.sweep(forbidden);
        if (least >= Search.NONE) {
            throw new NoSuchElementException("no line is good");
        }
        ready.writeBest(line, forbidden);
        return least;
    }

    public long goodLines() throws IllegalStateException, UnsupportedOperationException {
        requireSearchable();
        Search ready = readySearch();
        ready.sweep(laws.weighing(Laws.FORBIDDING));
        return ready.goodCount();
    }

    public int bars() throws IllegalStateException, UnsupportedOperationException {
        requireSearchable();
        return Integer.bitCount(readySearch().barring());
    }

    public char barAt(int index)
            throws IllegalStateException, UnsupportedOperationException, IndexOutOfBoundsException {
        requireSearchable();
        int barring = readySearch().barring();
        if (index < 0 || index >= Integer.bitCount(barring)) {
            throw new IndexOutOfBoundsException("no such law");
        }
        return Laws.signOf(Laws.nthOf(barring, index));
    }

    /** The searcher, its tables brought up to what is set now. */
    private Search readySearch() {
        if (search == null) {
            search = new Search(ground, laws);
        }
        search.prepare();
        return search;
    }

    // ---- exchange and canons

    public int exchanged(int steps) throws IllegalArgumentException, IllegalStateException {
        if (steps < 7 || steps > 14) {
            throw new IllegalArgumentException("no such exchange");
        }
        requireWhole();
        int total = 0;
        for (int i = 0; i < line.length(); i++) {
            int gap = Tone.plainGap(line.toneAt(i) - steps, ground.against(i));
            if (ground.isStrong(i) && Tone.isDissonant(gap)) {
                total++;
            }
        }
        return total;
    }

    public int canon(int distance, int steps) throws IllegalArgumentException, IllegalStateException {
        if (distance < 1 || distance > Canons.FARTHEST) {
            throw new IllegalArgumentException("no such distance");
        }
        if (steps < -Canons.HIGHEST || steps > Canons.HIGHEST) {
            throw new IllegalArgumentException("no such number of steps");
        }
        if (line.length() <= distance) {
            throw new IllegalStateException("the other line is too short");
        }
        return Canons.faultsOf(line, distance, steps);
    }

    public int canons() throws IllegalStateException {
        requireTwoNotes();
        return Canons.faultlessCount(line);
    }

    public int canonAt(int index) throws IllegalStateException, IndexOutOfBoundsException {
        requireTwoNotes();
        int number = Canons.faultlessNumber(line, index);
        if (number < 0) {
            throw new IndexOutOfBoundsException("no such canon");
        }
        return number;
    }

    // ---- figures

    public float stepShare() throws ArithmeticException {
        int moves = line.length() - 1;
        if (moves < 1) {
            throw new ArithmeticException("the other line does not move");
        }
        int single = 0;
        for (int i = 1; i <= moves; i++) {
            if (Math.abs(line.stepTo(i)) == 1) {
                single++;
            }
        }
        return (float) single / (float) moves;
    }

    public double meanPitch() throws ArithmeticException {
        int count = line.length();
        if (count < 1) {
            throw new ArithmeticException("the other line is empty");
        }
        int sum = 0;
        for (int i = 0; i < count; i++) {
            sum += line.heightAt(i);
        }
        return (double) sum / (double) count;
    }

    public boolean isConsistent() {
        return costIsSumOfFaults() && (!canTryAll() || readySearch().agreesWithTryingAll());
    }

    private boolean costIsSumOfFaults() {
        int active = laws.weighing(1);
        int sum = 0;
        for (int i = 0; i < line.length(); i++) {
            int set = line.faultsAt(i) & active;
            int size = Integer.bitCount(set);
            for (int nth = 0; nth < size; nth++) {
                sum += laws.weightOf(Laws.nthOf(set, nth));
            }
        }
        return sum == line.costBetween(laws, 0, line.length() - 1);
    }

    private boolean canTryAll() {
        return ground.perGiven() == 1 && ground.size() >= 2 && ground.size() <= 4 && ground.width() <= 8;
    }

    // ---- what calls require

    private void requireNote(int note) {
        if (!Tone.isNote(note)) {
            throw new IllegalArgumentException("no such note");
        }
    }

    private void requireIndex(int index) {
        if (!line.has(index)) {
            throw new IndexOutOfBoundsException("no such index");
        }
    }

    private int requiredLaw(char law) {
        int which = Laws.ORDER.indexOf(law);
        if (which < 0) {
            throw new IllegalArgumentException("no such law");
        }
        return which;
    }

    private int requiredFault(int index) {
        int fault = line.faultNumber(index, laws.weighing(1));
        if (fault < 0) {
            throw new IndexOutOfBoundsException("no such fault");
        }
        return fault;
    }

    private void requireWhole() {
        if (!line.isWhole()) {
            throw new IllegalStateException("the other line is not whole");
        }
    }

    private void requireTwoNotes() {
        if (line.length() < 2) {
            throw new IllegalStateException("the other line is too short");
        }
    }

    private void requireSearchable() {
        if (ground.size() < 2) {
            throw new IllegalStateException("the given line is too short");
        }
        if (ground.perGiven() == 4) {
            throw new UnsupportedOperationException("no search with the ratio 4");
        }
    }

    /** Notes, their pitches and intervals; an interval is one number, 12 for each step and 1 a semitone. */
    private static final class Tone {
        static final int COUNT = 28;
        private static final int UNISON = 0;
        private static final int FIFTH = 4 * 12 + 7;

        static boolean isNote(int note) {
            return note >= 0 && note < COUNT;
        }

        /** The pitch of a note, also of one below 0. */
        static int heightOf(int note) {
            int letter = note % 7;
            if (letter < 0) {
                letter += 7;
            }
            int octave = (note - letter) / 7;
            // Between the third and the fourth letter lies a half step only.
            return 12 * octave + 2 * letter - (letter >= 3 ? 1 : 0);
        }

        static int gap(int steps, int semitones) {
            return Math.abs(steps) % 7 * 12 + Math.abs(semitones) % 12;
        }

        /** The interval of two notes with nothing feigned. */
        static int plainGap(int note, int other) {
            return gap(note - other, heightOf(note) - heightOf(other));
        }

        static boolean isFifth(int gap) {
            return gap == FIFTH;
        }

        static boolean isUnison(int gap) {
            return gap == UNISON;
        }

        static boolean isPerfect(int gap) {
            return gap == UNISON || gap == FIFTH;
        }

        static boolean isImperfect(int gap) {
            return gap == 2 * 12 + 3 || gap == 2 * 12 + 4 || gap == 5 * 12 + 8 || gap == 5 * 12 + 9;
        }

        static boolean isDissonant(int gap) {
            return !isPerfect(gap) && !isImperfect(gap);
        }

        static char signOf(int gap) {
            if (gap == UNISON) {
                return 'u';
            }
            if (gap == FIFTH) {
                return 'f';
            }
            return isImperfect(gap) ? 'i' : 'd';
        }
    }

    /** What the other line is set on: the given line, the ratio, the side, feigning and the range. */
    private static final class Ground {
        static final int MOST = 14;
        private final int[] givens;
        private int count;
        /** The ratio as a power of 2, so that nothing has to be divided by it. */
        private int shift;
        private boolean below;
        private boolean feigning;
        private int low;
        private int high;
        /** How often anything here was set, by which tables made from it know that they are old. */
        private int changes;

        Ground() {
            givens = new int[MOST];
            low = 7;
            high = 16;
        }

        int size() {
            return count;
        }

        void append(int note) {
            if (count < givens.length) {
                givens[count] = note;
                count++;
                changes++;
            }
        }

        void empty() {
            count = 0;
            changes++;
        }

        int perGiven() {
            return 1 << shift;
        }

        void setPerGiven(int ratio) {
            shift = ratio == 4 ? 2 : ratio == 2 ? 1 : 0;
            changes++;
        }

        boolean isBelow() {
            return below;
        }

        void setBelow(boolean isBelow) {
            below = isBelow;
            changes++;
        }

        boolean isFeigning() {
            return feigning;
        }

        void setFeigning(boolean isFeigning) {
            feigning = isFeigning;
            changes++;
        }

        int lowest() {
            return low;
        }

        int width() {
            return high - low + 1;
        }

        void setRange(int lowest, int greatest) {
            low = lowest;
            high = greatest;
            changes++;
        }

        int changes() {
            return changes;
        }

        /** How many notes the other line can have. */
        int room() {
            return count == 0 ? 0 : ((count - 1) << shift) + 1;
        }

        boolean isStrong(int index) {
            return (index & (perGiven() - 1)) == 0;
        }

        /** The given note of a note of the other line. */
        int against(int index) {
            int place = index >> shift;
            return place >= 0 && place < count && place < givens.length ? givens[place] : 0;
        }

        /** By how many steps the given line comes to a note of the other one. */
        int stepTo(int index) {
            return index < 1 ? 0 : against(index) - against(index - 1);
        }
    }

    /** The laws in their order, each a bit of a set of laws, and their weights. */
    private static final class Laws {
        static final int COUNT = 12;
        static final int FORBIDDING = 10;
        static final int STYLE_COUNT = 3;
        static final String ORDER = "bedwpqhxustr";
        static final int BEGIN = 1;
        static final int END = 1 << 1;
        static final int STRONG_CLASH = 1 << 2;
        static final int WEAK_CLASH = 1 << 3;
        static final int PARALLEL = 1 << 4;
        static final int STRONG_PARALLEL = 1 << 5;
        static final int HIDDEN = 1 << 6;
        static final int CROSSING = 1 << 7;
        static final int UNISON = 1 << 8;
        static final int STANDING = 1 << 9;
        static final int ILL_LEAP = 1 << 10;
        static final int NO_RETURN = 1 << 11;
        private static final int[] STYLES = {
            10, 10, 10, 10, 10, 5, 3, 10, 2, 1, 10, 4,
            10, 10, 10, 10, 10, 10, 10, 10, 10, 10, 10, 10,
            0, 10, 10, 10, 10, 0, 0, 10, 0, 0, 3, 0,
        };
        private final int[] weights;
        private int changes;

        Laws() {
            weights = new int[COUNT];
            System.arraycopy(STYLES, 0, weights, 0, COUNT);
        }

        static char signOf(int law) {
            return law >= 0 && law < ORDER.length() ? ORDER.charAt(law) : ' ';
        }

        /** The number of a law of a set that has so many others of it ahead; -1 if there is none. */
        static int nthOf(int set, int ahead) {
            int left = ahead;
            for (int law = 0; law < COUNT; law++) {
                if ((set >> law & 1) != 0) {
                    if (left == 0) {
                        return law;
                    }
                    left--;
                }
            }
            return -1;
        }

        int weightOf(int law) {
            return law >= 0 && law < weights.length ? weights[law] : 0;
        }

        void setWeight(int law, int weight) {
            if (law >= 0 && law < weights.length) {
                weights[law] = weight;
                changes++;
            }
        }

        /** Takes the weights of a style and tells how many of them are new. */
        int adopt(int style) {
            int differing = 0;
            for (int law = 0; law < COUNT; law++) {
                int from = style * COUNT + law;
                if (from >= 0 && from < STYLES.length && weightOf(law) != STYLES[from]) {
                    setWeight(law, STYLES[from]);
                    differing++;
                }
            }
            return differing;
        }

        int changes() {
            return changes;
        }

        /** The set of the laws with at least that weight. */
        int weighing(int least) {
            int set = 0;
            for (int law = 0; law < COUNT; law++) {
                if (weightOf(law) >= least) {
                    set |= 1 << law;
                }
            }
            return set;
        }

        /** The sum of the weights of a set of laws. */
        int costOf(int set) {
            int sum = 0;
            for (int law = 0; law < COUNT && set >> law != 0; law++) {
                if ((set >> law & 1) != 0) {
                    sum += weightOf(law);
                }
            }
            return sum;
        }
    }

    /** A line against the given one, with its intervals and its faults. */
    private static final class Line {
        /** Room for 13 given notes with 4 notes each, and one more. */
        private static final int MOST = 53;
        private final Ground ground;
        private final int[] tones;
        private int count;

        Line(Ground ground) {
            this.ground = ground;
            tones = new int[MOST];
        }

        int length() {
            return count;
        }

        boolean has(int index) {
            return index >= 0 && index < count;
        }

        boolean isFull() {
            return count >= ground.room();
        }

        boolean isWhole() {
            return ground.size() >= 2 && count == ground.room();
        }

        int toneAt(int index) {
            return index >= 0 && index < tones.length ? tones[index] : 0;
        }

        void put(int index, int note) {
            if (index >= 0 && index < tones.length) {
                tones[index] = note;
            }
        }

        void append(int note) {
            if (count < tones.length) {
                tones[count] = note;
                count++;
            }
        }

        /** Gives the line so many notes, whatever they were. */
        void stretch(int length) {
            count = Math.max(0, Math.min(length, tones.length));
        }

        /** By how many steps the line comes to a note. */
        int stepTo(int index) {
            return index < 1 ? 0 : toneAt(index) - toneAt(index - 1);
        }

        /** The pitch of a note, a feigned one counted. */
        int heightAt(int index) {
            int height = Tone.heightOf(toneAt(index));
            if (!ground.isFeigning() || index != count - 2 || count != ground.room()) {
                return height;
            }
            int last = toneAt(index + 1);
            boolean isStepLower = last - toneAt(index) == 1 && Tone.heightOf(last) - height == 2;
            return isStepLower ? height + 1 : height;
        }

        int gapAt(int index) {
            int from = ground.against(index);
            return Tone.gap(toneAt(index) - from, heightAt(index) - Tone.heightOf(from));
        }

        /** The set of the laws that have a fault at a note. */
        int faultsAt(int index) {
            return nearFaults(index) | farFaults(index);
        }

        /** The faults that hang on a note and the one before alone. */
        int nearFaults(int index) {
            int gap = gapAt(index);
            boolean isLast = index == ground.room() - 1;
            int above = toneAt(index) - ground.against(index);
            int set = 0;
            if (index > 0) {
                set = parallels(index, gap, gapAt(index - 1)) | moves(index, heightAt(index) - heightAt(index - 1));
            } else if (!Tone.isPerfect(gap) || Tone.isFifth(gap) && above < 0) {
                set = Laws.BEGIN;
            }
            if (isLast && (!Tone.isUnison(gap) || !comesByContrarySteps(index))) {
                set |= Laws.END;
            }
            if (ground.isStrong(index) && Tone.isDissonant(gap)) {
                set |= Laws.STRONG_CLASH;
            }
            if (ground.isBelow() ? above > 0 : above < 0) {
                set |= Laws.CROSSING;
            }
            if (above == 0 && index > 0 && !isLast) {
                set |= Laws.UNISON;
            }
            return set;
        }

        private boolean comesByContrarySteps(int index) {
            int step = stepTo(index);
            return Math.abs(step) == 1 && ground.stepTo(index) == -step;
        }

        /** The faults of a move to a perfect interval. */
        private int parallels(int index, int gap, int gapBefore) {
            int step = stepTo(index);
            int givenStep = ground.stepTo(index);
            if (!Tone.isPerfect(gap) || step == 0 || givenStep == 0) {
                return 0;
            }
            int set = gap == gapBefore ? Laws.PARALLEL : 0;
            if (Math.abs(step) > 1 && step > 0 == givenStep > 0) {
                set |= Laws.HIDDEN;
            }
            return set;
        }

        /** The faults of a move, by itself, of so many semitones up. */
        private int moves(int index, int rise) {
            int size = Math.abs(stepTo(index));
            if (size == 0) {
                return Laws.STANDING;
            }
            int semitones = Math.abs(rise);
            boolean isIllRise = semitones == 6 || semitones == 10 || semitones == 11;
            return size > 1 && (size == 6 || size > 7 || isIllRise) ? Laws.ILL_LEAP : 0;
        }

        /** The faults that hang on notes ahead of the one before, too. */
        int farFaults(int index) {
            if (index < 2) {
                return 0;
            }
            int set = 0;
            int before = stepTo(index - 1);
            int step = stepTo(index);
            if (Math.abs(before) >= 4 && step != (before > 0 ? -1 : 1)) {
                set |= Laws.NO_RETURN;
            }
            boolean isPassing = Math.abs(before) == 1 && step == before;
            if (!isPassing && !ground.isStrong(index - 1) && Tone.isDissonant(gapAt(index - 1))) {
                set |= Laws.WEAK_CLASH;
            }
            if (bothMovedSinceStrong(index)) {
                int gap = gapAt(index);
                if (Tone.isPerfect(gap) && gap == gapAt(index - ground.perGiven())) {
                    set |= Laws.STRONG_PARALLEL;
                }
            }
            return set;
        }

        /** Whether at a strong note both voices are elsewhere than at the strong one before; not with the ratio 1. */
        private boolean bothMovedSinceStrong(int index) {
            int before = index - ground.perGiven();
            if (ground.perGiven() == 1 || before < 0 || !ground.isStrong(index)) {
                return false;
            }
            return toneAt(index) != toneAt(before) && ground.against(index) != ground.against(before);
        }

        /** 12 times the index of the note of a fault, plus the number of its law; -1 if there is none. */
        int faultNumber(int which, int active) {
            if (which < 0) {
                return -1;
            }
            int left = which;
            for (int i = 0; i < count; i++) {
                int set = faultsAt(i) & active;
                int size = Integer.bitCount(set);
                if (left < size) {
                    return i * Laws.COUNT + Laws.nthOf(set, left);
                }
                left -= size;
            }
            return -1;
        }

        /** The cost of the faults at the notes from one to another. */
        int costBetween(Laws laws, int first, int last) {
            int sum = 0;
            for (int i = Math.max(0, first); i <= last && i < count; i++) {
                sum += laws.costOf(faultsAt(i));
            }
            return sum;
        }

        boolean isFree(int forbidden) {
            for (int i = 0; i < count; i++) {
                if ((faultsAt(i) & forbidden) != 0) {
                    return false;
                }
            }
            return true;
        }

        /** The cost of all faults that a note has a part in. */
        int costAround(Laws laws, int index) {
            // A last note decides what is feigned ahead of it; a strong one is looked back at from the next.
            return costBetween(laws, index - 1, index + Math.max(2, ground.perGiven()));
        }
    }

    /**
     * Looks through all lines of the range, from the end to the beginning, by the last two notes.
     *
     * <p>A note of the range is its number from the lowest one on; where a note ahead is missing, 0 stands for it.
     */
    private static final class Search {
        static final int WIDEST = 10;
        static final int NONE = 1000000;
        private static final int LONGEST = 27;
        private final Ground ground;
        private final Laws laws;
        private final Line sketch;
        private final Line trial;
        /** The faults at a place by three notes behind each other; the place ahead of the last has two of these. */
        private final int[] masks;
        /** The least cost from a place on, by the two notes ahead of it. */
        private final int[] tails;
        /** How many ways there are from a place on, by the two notes ahead of it. */
        private final long[] ways;
        private int length;
        private int width;
        private int low;
        private int madeFor;
        private int barSet;
        private int barsGround;
        private int barsLaws;

        Search(Ground ground, Laws laws) {
            this.ground = ground;
            this.laws = laws;
            sketch = new Line(ground);
            trial = new Line(ground);
            masks = new int[(LONGEST + 1) * WIDEST * WIDEST * WIDEST];
            tails = new int[LONGEST * WIDEST * WIDEST];
            ways = new long[LONGEST * WIDEST * WIDEST];
            madeFor = -1;
            barsGround = -1;
            barsLaws = -1;
        }

        /** Makes the table of faults, if something it was made for has changed. */
        void prepare() {
            if (madeFor == ground.changes()) {
                return;
            }
            madeFor = ground.changes();
            length = Math.min(ground.room(), LONGEST);
            width = Math.min(ground.width(), WIDEST);
            low = ground.lowest();
            sketch.stretch(length);
            for (int place = 0; place < length - 1; place++) {
                makeMasks(place, place, 0);
            }
            makeMasks(length - 1, length - 2, 1);
            makeMasks(length, length - 1, 0);
        }

        /** Makes the masks of a place; the last note is told, where that place is ahead of it. */
        private void makeMasks(int slot, int place, int lastStep) {
            for (int b = 0; b < choices(place - 1); b++) {
                sketch.put(place - 1, low + b);
                for (int c = 0; c < width; c++) {
                    sketch.put(place, low + c);
                    if (place == length - 2) {
                        sketch.put(place + 1, low + c + lastStep);
                    }
                    int near = sketch.nearFaults(place);
                    for (int a = 0; a < choices(place - 2); a++) {
                        sketch.put(place - 2, low + a);
                        int at = maskPlace(slot, a, b, c);
                        if (at >= 0 && at < masks.length) {
                            masks[at] = near | sketch.farFaults(place);
                        }
                    }
                }
            }
        }

        /** How many notes can be at a place, one that stands for none ahead of the first. */
        private int choices(int place) {
            return place < 0 ? 1 : width;
        }

        private int maskPlace(int slot, int a, int b, int c) {
            return ((slot * WIDEST + a) * WIDEST + b) * WIDEST + c;
        }

        private int maskAt(int slot, int a, int b, int c) {
            int at = maskPlace(slot, a, b, c);
            return at >= 0 && at < masks.length ? masks[at] : 0;
        }

        /** Where the masks of the place ahead of the last one are: a step up to the last may be feigned. */
        private int slotAheadOf(int c, int last) {
            return last - c == 1 ? length - 1 : length - 2;
        }

        private int tailPlace(int place, int a, int b) {
            return (place * WIDEST + a) * WIDEST + b;
        }

        private int tailAt(int place, int a, int b) {
            int at = tailPlace(place, a, b);
            return at >= 0 && at < tails.length ? tails[at] : NONE;
        }

        private long waysAt(int place, int a, int b) {
            int at = tailPlace(place, a, b);
            return at >= 0 && at < ways.length ? ways[at] : 0;
        }

        private int priceOf(int mask, int forbidden) {
            return (mask & forbidden) != 0 ? NONE : laws.costOf(mask);
        }

        /** Fills the rows for lines without those faults, and tells their least cost, or NONE. */
        int sweep(int forbidden) {
            sweepEnd(forbidden);
            for (int place = length - 3; place >= 0; place--) {
                sweepPlace(place, forbidden);
            }
            return tailAt(0, 0, 0);
        }

        private void emptyRow(int place) {
            for (int a = 0; a < width; a++) {
                for (int b = 0; b < width; b++) {
                    int at = tailPlace(place, a, b);
                    if (at >= 0 && at < tails.length && at < ways.length) {
                        tails[at] = NONE;
                        ways[at] = 0;
                    }
                }
            }
        }

        /** The last two notes are taken at once, because the last one decides what is feigned. */
        private void sweepEnd(int forbidden) {
            int place = length - 2;
            emptyRow(place);
            for (int b = 0; b < choices(place - 1); b++) {
                for (int c = 0; c < width; c++) {
                    for (int last = 0; last < width; last++) {
                        int price = priceOf(maskAt(length, b, c, last), forbidden);
                        if (price < NONE) {
                            putAhead(slotAheadOf(c, last), place, b, c, forbidden, price, 1);
                        }
                    }
                }
            }
        }

        private void sweepPlace(int place, int forbidden) {
            emptyRow(place);
            for (int b = 0; b < choices(place - 1); b++) {
                for (int c = 0; c < width; c++) {
                    int price = tailAt(place + 1, b, c);
                    if (price < NONE) {
                        putAhead(place, place, b, c, forbidden, price, waysAt(place + 1, b, c));
                    }
                }
            }
        }

        /** Puts each note ahead of two ones, behind which the price and the number of ways are known. */
        private void putAhead(int slot, int place, int b, int c, int forbidden, int price, long count) {
            for (int a = 0; a < choices(place - 2); a++) {
                int mask = maskAt(slot, a, b, c);
                int at = tailPlace(place, a, b);
                if ((mask & forbidden) == 0 && at >= 0 && at < tails.length && at < ways.length) {
                    tails[at] = Math.min(tails[at], price + laws.costOf(mask));
                    ways[at] += count;
                }
            }
        }

        /** How many lines the last sweep found. */
        long goodCount() {
            return waysAt(0, 0, 0);
        }

        /** Writes the best line of the last sweep, which was for the same laws. */
        void writeBest(Line target, int forbidden) {
            target.stretch(length);
            int a = 0;
            int b = 0;
            for (int place = 0; place < length - 2; place++) {
                int c = bestNext(place, a, b, forbidden);
                target.put(place, low + c);
                a = b;
                b = c;
            }
            writeBestEnd(target, a, b, forbidden);
        }

        private int bestNext(int place, int a, int b, int forbidden) {
            for (int c = 0; c < width; c++) {
                int price = priceOf(maskAt(place, a, b, c), forbidden);
                if (price + tailAt(place + 1, b, c) == tailAt(place, a, b)) {
                    return c;
                }
            }
            return 0;
        }

        private void writeBestEnd(Line target, int a, int b, int forbidden) {
            for (int c = 0; c < width; c++) {
                for (int last = 0; last < width; last++) {
                    int price = priceOf(maskAt(slotAheadOf(c, last), a, b, c), forbidden);
                    int lastPrice = priceOf(maskAt(length, b, c, last), forbidden);
                    if (price + lastPrice == tailAt(length - 2, a, b)) {
                        target.put(length - 2, low + c);
                        target.put(length - 1, low + last);
                        return;
                    }
                }
            }
        }

        /** The set of the laws that bar each line; it is kept until something is set. */
        int barring() {
            if (barsGround == madeFor && barsLaws == laws.changes()) {
                return barSet;
            }
            barsGround = madeFor;
            barsLaws = laws.changes();
            barSet = laws.weighing(Laws.FORBIDDING);
            // Not the number of ways: it may wrap to 0.
            if (sweep(barSet) < NONE) {
                barSet = 0;
            }
            for (int law = 0; law < Laws.COUNT; law++) {
                int without = barSet & ~(1 << law);
                if (without != barSet && sweep(without) >= NONE) {
                    barSet = without;
                }
            }
            return barSet;
        }

        /** Whether trying all lines one by one finds as many good ones as a sweep, and the same best one. */
        boolean agreesWithTryingAll() {
            int forbidden = laws.weighing(Laws.FORBIDDING);
            int least = sweep(forbidden);
            writeBest(sketch, forbidden);
            long good = 0;
            int leastTried = NONE;
            boolean isSame = least >= NONE;
            int total = startTrying();
            for (int tried = 0; tried < total; tried++) {
                if (trial.isFree(forbidden)) {
                    good++;
                    int cost = trial.costBetween(laws, 0, length - 1);
                    if (cost < leastTried) {
                        leastTried = cost;
                        isSame = isSketched();
                    }
                }
                tryNext();
            }
            return good == goodCount() && leastTried == least && isSame;
        }

        /** Sets the lowest line and tells how many there are. */
        private int startTrying() {
            int total = 1;
            trial.stretch(length);
            for (int i = 0; i < length; i++) {
                trial.put(i, low);
                total *= width;
            }
            return total;
        }

        private void tryNext() {
            for (int i = length - 1; i >= 0; i--) {
                int next = trial.toneAt(i) + 1;
                if (next < low + width) {
                    trial.put(i, next);
                    return;
                }
                trial.put(i, low);
            }
        }

        private boolean isSketched() {
            for (int i = 0; i < length; i++) {
                if (trial.toneAt(i) != sketch.toneAt(i)) {
                    return false;
                }
            }
            return true;
        }
    }

    /** Canons of a line with itself, in which nothing is feigned. */
    private static final class Canons {
        static final int FARTHEST = 12;
        static final int HIGHEST = 7;

        static int faultsOf(Line line, int distance, int steps) {
            int total = 0;
            int before = -1;
            for (int i = distance; i < line.length(); i++) {
                int gap = Tone.plainGap(line.toneAt(i), line.toneAt(i - distance) + steps);
                if (Tone.isDissonant(gap)) {
                    total++;
                }
                boolean bothMove = line.stepTo(i) != 0 && line.stepTo(i - distance) != 0;
                if (gap == before && bothMove && Tone.isPerfect(gap)) {
                    total++;
                }
                before = gap;
            }
            return total;
        }

        private static int farthestOf(Line line) {
            return Math.min(FARTHEST, line.length() - 1);
        }

        static int faultlessCount(Line line) {
            int total = 0;
            for (int distance = 1; distance <= farthestOf(line); distance++) {
                for (int steps = -HIGHEST; steps <= HIGHEST; steps++) {
                    if (faultsOf(line, distance, steps) == 0) {
                        total++;
                    }
                }
            }
            return total;
        }

        /** 100 times the distance of a canon without faults, plus 50, plus its steps; -1 if there is none. */
        static int faultlessNumber(Line line, int index) {
            int seen = 0;
            for (int distance = 1; distance <= farthestOf(line); distance++) {
                for (int steps = -HIGHEST; steps <= HIGHEST; steps++) {
                    if (faultsOf(line, distance, steps) == 0) {
                        if (seen == index) {
                            return 100 * distance + 50 + steps;
                        }
                        seen++;
                    }
                }
            }
            return -1;
        }
    }
}
