import java.util.ArrayList;
import java.util.List;
import java.util.NoSuchElementException;
import java.util.Random;

/**
 * Plays seeded runs of calls on the class and on a slow model of the document, and compares every answer.
 *
 * <p>The model shares no code and no way of working with the class: it keeps lists, tells each fault by a text of the
 * law, and searches by trying the notes one behind the other.
 */
public final class OracleTest {
    private static int wrong = 0;

    public static void main(String[] args) {
        for (int seed = 1; seed <= 400; seed++) {
            playAnything(seed);
        }
        for (int seed = 1; seed <= 400; seed++) {
            playMelodic(seed);
        }
        System.out.println(wrong == 0 ? "the model agrees" : wrong + " answers are not the model's");
        if (wrong != 0) {
            System.exit(1);
        }
    }

    // ---- the runs

    private static void playAnything(int seed) {
        Random random = new Random(seed);
        Pair pair = new Pair("anything " + seed);
        int span = seed % 3 == 0 ? 28 : 10;
        for (int call = 0; call < 120; call++) {
            int kind = random.nextInt(40);
            if (kind < 3) {
                pair.call("given", wild(random, span), 0);
            } else if (kind < 14) {
                pair.call("other", wild(random, span), 0);
            } else {
                playOne(pair, random, kind, span);
            }
        }
        pair.call("isConsistent", 0, 0);
    }

    /** Lines that a singer could sing, so that few faults stand alone and searches have something to find. */
    private static void playMelodic(int seed) {
        Random random = new Random(1000000L + seed);
        Pair pair = new Pair("melodic " + seed);
        int ratio = 1 << random.nextInt(3);
        pair.call("ratio", ratio, 0);
        pair.call("feign", random.nextInt(2), 0);
        boolean lower = random.nextInt(3) == 0;
        pair.call("lower", lower ? 1 : 0, 0);
        int size = 1 + random.nextInt(random.nextInt(3) == 0 ? 14 : 5);
        int note = 7 + random.nextInt(10);
        for (int i = 0; i < size; i++) {
            pair.call("given", note, 0);
            boolean isLastMove = i == size - 2 && random.nextInt(5) > 0;
            note = Math.max(0, Math.min(27, note + (isLastMove ? random.nextInt(2) * 2 - 1 : random.nextInt(7) - 3)));
        }
        int low = Math.max(0, Math.min(27, note + (lower ? -7 - random.nextInt(4) : -random.nextInt(3))));
        pair.call("range", low, Math.min(27, low + random.nextInt(10)));
        int above = Math.max(0, Math.min(27, note + (lower ? -4 : 4)));
        for (int i = 0; i < (size - 1) * ratio + 1; i++) {
            pair.call("other", above, 0);
            above = Math.max(0, Math.min(27, above + random.nextInt(random.nextInt(4) == 0 ? 17 : 5) - 2));
        }
        pair.compareAll();
        for (int call = 0; call < 30; call++) {
            playOne(pair, random, 14 + random.nextInt(26), 28);
            if (random.nextInt(4) == 0) {
                pair.call("find", 0, 0);
                pair.compareAll();
            }
        }
        pair.call("isConsistent", 0, 0);
    }

    private static int wild(Random random, int span) {
        return random.nextInt(25) == 0 ? random.nextInt(60) - 20 : random.nextInt(span) + (28 - span) / 2;
    }

    private static void playOne(Pair pair, Random random, int kind, int span) {
        String laws = "bedwpqhxustrza";
        switch (kind) {
            case 14: case 15: case 16: pair.call("change", random.nextInt(12) - 1, wild(random, span)); break;
            case 17: if (random.nextInt(4) == 0) pair.call("clear", random.nextInt(2), 0); break;
            case 18: if (random.nextInt(4) == 0) pair.call("ratio", random.nextInt(6), 0); break;
            case 19: pair.call("lower", random.nextInt(2), 0); break;
            case 20: pair.call("feign", random.nextInt(2), 0); break;
            case 21: pair.compareAll(); break;
            case 22: case 23: case 24:
                pair.call("setLaw", laws.charAt(random.nextInt(laws.length())), random.nextInt(13) - 1); break;
            case 25: pair.call("weight", laws.charAt(random.nextInt(laws.length())), 0); break;
            case 26: pair.call("style", random.nextInt(4) - random.nextInt(2), 0); break;
            case 27: case 28: pair.call("mend", 0, 0); pair.call("cost", 0, 0); break;
            case 29: {
                int low = random.nextInt(span);
                pair.call("range", random.nextInt(20) == 0 ? low - 10 : low, low + random.nextInt(11) - 1); break;
            }
            case 30: case 31: pair.call("find", 0, 0); break;
            case 32: pair.call("goodLines", 0, 0); break;
            case 33: pair.call("bars", 0, 0); break;
            case 34: pair.call("barAt", random.nextInt(4) - 1, 0); break;
            case 35: pair.call("exchanged", 6 + random.nextInt(10), 0); break;
            case 36: pair.call("canon", random.nextInt(14), random.nextInt(17) - 8); break;
            case 37: pair.call("canons", 0, 0); break;
            case 38: pair.call("canonAt", random.nextInt(40) - 1, 0); break;
            default: pair.call("isConsistent", 0, 0); break;
        }
    }

    /** The class and the model, called side by side. */
    private static final class Pair {
        private final String name;
        private final StringBuilder story = new StringBuilder();
        private final Counterpointery real = new Counterpointery();
        private final Model model = new Model();

        Pair(String name) {
            this.name = name;
        }

        void call(String call, int a, int b) {
            String due = answerOfModel(call, a, b);
            if (due.equals("TooLong")) {
                return;
            }
            story.append(call).append('(').append(a).append(',').append(b).append(") ");
            String got = answerOfReal(call, a, b);
            if (!due.equals(got)) {
                wrong++;
                if (wrong < 20) {
                    System.out.println(name + ": " + story + "answered " + got + ", due is " + due);
                }
            }
        }

        void compareAll() {
            for (String call : new String[] {"notes", "faults", "cost", "isGood", "stepShare", "meanPitch", "canons"}) {
                call(call, 0, 0);
            }
            for (int i = -1; i <= model.other.size(); i++) {
                call("noteAt", i, 0);
                call("pitch", i, 0);
                call("interval", i, 0);
            }
            int faults = model.faultList().size();
            for (int i = -1; i <= faults; i++) {
                call("faultAt", i, 0);
                call("faultOf", i, 0);
            }
        }

        private String answerOfReal(String call, int a, int b) {
            try {
                switch (call) {
                    case "given": return "" + real.given(a);
                    case "other": return "" + real.other(a);
                    case "change": return "" + real.change(a, b);
                    case "clear": return "" + real.clear(a == 1);
                    case "ratio": return "" + real.ratio(a);
                    case "lower": return "" + real.lower(a == 1);
                    case "feign": return "" + real.feign(a == 1);
                    case "notes": return "" + real.notes();
                    case "noteAt": return "" + real.noteAt(a);
                    case "pitch": return "" + real.pitch(a);
                    case "interval": return "" + real.interval(a);
                    case "setLaw": return "" + real.setLaw((char) a, b);
                    case "weight": return "" + real.weight((char) a);
                    case "style": return "" + real.style(a);
                    case "faults": return "" + real.faults();
                    case "faultAt": return "" + real.faultAt(a);
                    case "faultOf": return "" + real.faultOf(a);
                    case "cost": return "" + real.cost();
                    case "isGood": return "" + real.isGood();
                    case "mend": return "" + real.mend();
                    case "range": return "" + real.range(a, b);
                    case "find": return "" + real.find();
                    case "goodLines": return "" + real.goodLines();
                    case "bars": return "" + real.bars();
                    case "barAt": return "" + real.barAt(a);
                    case "exchanged": return "" + real.exchanged(a);
                    case "canon": return "" + real.canon(a, b);
                    case "canons": return "" + real.canons();
                    case "canonAt": return "" + real.canonAt(a);
                    case "stepShare": return "" + real.stepShare();
                    case "meanPitch": return "" + real.meanPitch();
                    default: return "" + real.isConsistent();
                }
            } catch (RuntimeException e) {
                return e.getClass().getSimpleName();
            }
        }

        private String answerOfModel(String call, int a, int b) {
            try {
                switch (call) {
                    case "given": return "" + model.given(a);
                    case "other": return "" + model.other(a);
                    case "change": return "" + model.change(a, b);
                    case "clear": return "" + model.clear(a == 1);
                    case "ratio": return "" + model.ratio(a);
                    case "lower": { boolean was = model.lower; model.lower = a == 1; return "" + was; }
                    case "feign": { boolean was = model.feign; model.feign = a == 1; return "" + was; }
                    case "notes": return "" + model.other.size();
                    case "noteAt": return "" + model.noteAt(a);
                    case "pitch": model.noteAt(a); return "" + model.pitch(model.other, a);
                    case "interval": model.noteAt(a); return "" + model.kind(model.other, a);
                    case "setLaw": return "" + model.setLaw((char) a, b);
                    case "weight": return "" + model.setLaw((char) a, -5);
                    case "style": return "" + model.style(a);
                    case "faults": return "" + model.faultList().size();
                    case "faultAt": return model.fault(a).substring(1);
                    case "faultOf": return model.fault(a).substring(0, 1);
                    case "cost": return "" + model.cost(model.other);
                    case "isGood": return "" + (model.isWhole() && model.isGood(model.other));
                    case "mend": return "" + model.mend();
                    case "range": return "" + model.range(a, b);
                    case "find": return "" + model.find();
                    case "goodLines": return "" + model.goodLines();
                    case "bars": return "" + model.bars().length();
                    case "barAt": return "" + model.barAt(a);
                    case "exchanged": return "" + model.exchanged(a);
                    case "canon": return "" + model.canon(a, b);
                    case "canons": return "" + model.canons().size();
                    case "canonAt": return "" + model.canonAt(a);
                    case "stepShare": return "" + model.stepShare();
                    case "meanPitch": return "" + model.meanPitch();
                    default: return "true";
                }
            } catch (RuntimeException e) {
                return e.getClass().getSimpleName();
            }
        }
    }

    /** Told by the model ahead of any change, where a search would try more notes than a test has time for. */
    private static final class TooLong extends RuntimeException {
        private static final long serialVersionUID = 1L;
    }

    /** The document, law by law. */
    private static final class Model {
        private static final String LAWS = "bedwpqhxustr";
        private final List<Integer> given = new ArrayList<>();
        private final List<Integer> other = new ArrayList<>();
        private final int[] weights = new int[128];
        private int ratio = 1;
        private boolean lower;
        private boolean feign;
        private int low = 7;
        private int high = 16;
        private int leastCost;
        private long found;
        private int tried;
        private List<Integer> best;

        Model() {
            style(0);
        }

        int full() {
            return given.isEmpty() ? 0 : ratio * (given.size() - 1) + 1;
        }

        boolean isWhole() {
            return given.size() >= 2 && other.size() == full();
        }

        private static void checkNote(int note) {
            if (note < 0 || note > 27) throw new IllegalArgumentException();
        }

        int given(int note) {
            checkNote(note);
            if (given.size() == 14) throw new IllegalStateException();
            given.add(note);
            other.clear();
            return given.size();
        }

        int other(int note) {
            checkNote(note);
            if (other.size() == full()) throw new IllegalStateException();
            other.add(note);
            return other.size();
        }

        int noteAt(int index) {
            if (index < 0 || index >= other.size()) throw new IndexOutOfBoundsException();
            return other.get(index);
        }

        int change(int index, int note) {
            noteAt(index);
            checkNote(note);
            return other.set(index, note);
        }

        int clear(boolean both) {
            int had = other.size();
            other.clear();
            if (both) given.clear();
            return had;
        }

        int ratio(int to) {
            if (to != 1 && to != 2 && to != 4) throw new IllegalArgumentException();
            int was = ratio;
            ratio = to;
            other.clear();
            return was;
        }

        /** The weight before; -5 only reads. */
        int setLaw(char law, int weight) {
            if (LAWS.indexOf(law) < 0) throw new IllegalArgumentException();
            if (weight != -5 && (weight < 0 || weight > 10)) throw new IllegalArgumentException();
            int was = weights[law];
            if (weight != -5) weights[law] = weight;
            return was;
        }

        int style(int style) {
            if (style < 0 || style > 2) throw new IllegalArgumentException();
            int changed = 0;
            for (char law : LAWS.toCharArray()) {
                int weight = 10;
                if (style == 0 && law == 'q') weight = 5;
                if (style == 0 && law == 'h') weight = 3;
                if (style == 0 && law == 'u') weight = 2;
                if (style == 0 && law == 's') weight = 1;
                if (style == 0 && law == 'r') weight = 4;
                if (style == 2 && "bhusrq".indexOf(law) >= 0) weight = 0;
                if (style == 2 && law == 't') weight = 3;
                if (weights[law] != weight) changed++;
                weights[law] = weight;
            }
            return changed;
        }

        static int plain(int note) {
            return 12 * Math.floorDiv(note, 7) + new int[] {0, 2, 4, 5, 7, 9, 11}[Math.floorMod(note, 7)];
        }

        int pitch(List<Integer> line, int i) {
            int pitch = plain(line.get(i));
            if (feign && line.size() == full() && i == line.size() - 2) {
                int last = line.get(i + 1);
                if (last == line.get(i) + 1 && plain(last) == pitch + 2) return pitch + 1;
            }
            return pitch;
        }

        int under(int i) {
            return given.get(i / ratio);
        }

        String interval(List<Integer> line, int i) {
            int steps = Math.abs(line.get(i) - under(i)) % 7;
            int semitones = Math.abs(pitch(line, i) - plain(under(i))) % 12;
            return steps + ":" + semitones;
        }

        static char kindOf(String interval) {
            switch (interval) {
                case "0:0": return 'u';
                case "4:7": return 'f';
                case "2:3": case "2:4": case "5:8": case "5:9": return 'i';
                default: return 'd';
            }
        }

        char kind(List<Integer> line, int i) {
            return kindOf(interval(line, i));
        }

        boolean perfect(List<Integer> line, int i) {
            return "uf".indexOf(kind(line, i)) >= 0;
        }

        int move(List<Integer> line, int i) {
            return line.get(i) - line.get(i - 1);
        }

        int givenMove(int i) {
            return under(i) - under(i - 1);
        }

        boolean parallel(List<Integer> line, int i, int j) {
            boolean bothMoved = !line.get(i).equals(line.get(j)) && under(i) != under(j);
            return perfect(line, i) && bothMoved && interval(line, i).equals(interval(line, j));
        }

        boolean hasFault(char law, List<Integer> line, int i) {
            boolean strong = i % ratio == 0;
            boolean last = i == full() - 1;
            int note = line.get(i);
            switch (law) {
                case 'b': return i == 0 && (!perfect(line, 0) || kind(line, 0) == 'f' && note < under(0));
                case 'e':
                    if (!last) return false;
                    if (i == 0 || kind(line, i) != 'u') return true;
                    if (Math.abs(move(line, i)) != 1 || Math.abs(givenMove(i)) != 1) return true;
                    return move(line, i) == givenMove(i);
                case 'd': return strong && kind(line, i) == 'd';
                case 'w':
                    if (i == 0 || (i - 1) % ratio == 0 || kind(line, i - 1) != 'd') return false;
                    return Math.abs(move(line, i - 1)) != 1 || move(line, i) != move(line, i - 1);
                case 'p': return i > 0 && parallel(line, i, i - 1);
                case 'q': return ratio > 1 && strong && i > 0 && parallel(line, i, i - ratio);
                case 'h':
                    return i > 0 && perfect(line, i) && Math.abs(move(line, i)) > 1
                            && Integer.signum(move(line, i)) == Integer.signum(givenMove(i));
                case 'x': return lower ? note > under(i) : note < under(i);
                case 'u': return i > 0 && !last && note == under(i);
                case 's': return i > 0 && move(line, i) == 0;
                case 't': {
                    if (i == 0 || Math.abs(move(line, i)) <= 1) return false;
                    int steps = Math.abs(move(line, i));
                    int semitones = Math.abs(pitch(line, i) - pitch(line, i - 1));
                    return steps == 6 || steps > 7 || semitones == 6 || semitones == 10 || semitones == 11;
                }
                default: {
                    if (i < 2 || Math.abs(move(line, i - 1)) < 4) return false;
                    return move(line, i) != -Integer.signum(move(line, i - 1));
                }
            }
        }

        List<String> faultsAt(List<Integer> line, int i, int least) {
            List<String> faults = new ArrayList<>();
            for (char law : LAWS.toCharArray()) {
                if (weights[law] >= least && hasFault(law, line, i)) faults.add(law + "" + i);
            }
            return faults;
        }

        List<String> faultList() {
            List<String> faults = new ArrayList<>();
            for (int i = 0; i < other.size(); i++) faults.addAll(faultsAt(other, i, 1));
            return faults;
        }

        String fault(int index) {
            List<String> faults = faultList();
            if (index < 0 || index >= faults.size()) throw new IndexOutOfBoundsException();
            return faults.get(index);
        }

        int cost(List<Integer> line) {
            int sum = 0;
            for (int i = 0; i < line.size(); i++) {
                for (String fault : faultsAt(line, i, 1)) sum += weights[fault.charAt(0)];
            }
            return sum;
        }

        boolean isGood(List<Integer> line) {
            for (int i = 0; i < line.size(); i++) {
                if (!faultsAt(line, i, 10).isEmpty()) return false;
            }
            return true;
        }

        int mend() {
            if (!isWhole()) throw new IllegalStateException();
            int least = cost(other);
            int bestIndex = -1;
            int bestNote = -1;
            for (int i = 0; i < other.size(); i++) {
                int own = other.get(i);
                for (int note = 0; note < 28; note++) {
                    other.set(i, note);
                    int cost = cost(other);
                    if (cost < least) {
                        least = cost;
                        bestIndex = i;
                        bestNote = note;
                    }
                }
                other.set(i, own);
            }
            if (bestIndex < 0) throw new NoSuchElementException();
            other.set(bestIndex, bestNote);
            return bestIndex;
        }

        int range(int lowest, int greatest) {
            checkNote(lowest);
            checkNote(greatest);
            if (greatest < lowest || greatest > lowest + 9) throw new IllegalArgumentException();
            low = lowest;
            high = greatest;
            return high - low + 1;
        }

        private void checkSearch() {
            if (given.size() < 2) throw new IllegalStateException();
            if (ratio == 4) throw new UnsupportedOperationException();
        }

        private void search() {
            found = 0;
            tried = 0;
            leastCost = Integer.MAX_VALUE;
            best = null;
            extend(new ArrayList<>());
        }

        /** What is feigned hangs on the last note, so the last two notes are judged when all are there. */
        private void extend(List<Integer> line) {
            int i = line.size() - 1;
            if (++tried > 10000) throw new TooLong();
            if (line.size() == full()) {
                if (!isGood(line)) return;
                found++;
                int cost = cost(line);
                if (cost < leastCost) {
                    leastCost = cost;
                    best = new ArrayList<>(line);
                }
                return;
            }
            if (i >= 0 && i < full() - 2 && !faultsAt(line, i, 10).isEmpty()) return;
            for (int note = low; note <= high; note++) {
                line.add(note);
                extend(line);
                line.remove(line.size() - 1);
            }
        }

        int find() {
            checkSearch();
            search();
            if (best == null) throw new NoSuchElementException();
            other.clear();
            other.addAll(best);
            return leastCost;
        }

        long goodLines() {
            checkSearch();
            search();
            return found;
        }

        String bars() {
            checkSearch();
            search();
            if (found > 0) return "";
            int[] kept = weights.clone();
            StringBuilder bars = new StringBuilder();
            try {
                for (char law : LAWS.toCharArray()) {
                    if (weights[law] != 10) continue;
                    weights[law] = 0;
                    search();
                    if (found > 0) {
                        weights[law] = 10;
                        bars.append(law);
                    }
                }
            } finally {
                System.arraycopy(kept, 0, weights, 0, kept.length);
            }
            return bars.toString();
        }

        char barAt(int index) {
            String bars = bars();
            if (index < 0 || index >= bars.length()) throw new IndexOutOfBoundsException();
            return bars.charAt(index);
        }

        static String apart(int note, int from) {
            return Math.abs(note - from) % 7 + ":" + Math.abs(plain(note) - plain(from)) % 12;
        }

        int exchanged(int steps) {
            if (steps < 7 || steps > 14) throw new IllegalArgumentException();
            if (!isWhole()) throw new IllegalStateException();
            int count = 0;
            for (int i = 0; i < other.size(); i += ratio) {
                if (kindOf(apart(other.get(i) - steps, under(i))) == 'd') count++;
            }
            return count;
        }

        int canon(int distance, int steps) {
            if (distance < 1 || distance > 12 || steps < -7 || steps > 7) throw new IllegalArgumentException();
            if (other.size() <= distance) throw new IllegalStateException();
            int count = 0;
            for (int i = 0; i + distance < other.size(); i++) {
                int lead = i + distance;
                String here = apart(other.get(i) + steps, other.get(lead));
                if (kindOf(here) == 'd') count++;
                if (lead + 1 >= other.size()) continue;
                String next = apart(other.get(i + 1) + steps, other.get(lead + 1));
                boolean same = here.equals(next) && (here.equals("0:0") || here.equals("4:7"));
                if (same && move(other, i + 1) != 0 && move(other, lead + 1) != 0) count++;
            }
            return count;
        }

        List<Integer> canons() {
            if (other.size() < 2) throw new IllegalStateException();
            List<Integer> list = new ArrayList<>();
            for (int distance = 1; distance <= 12 && distance < other.size(); distance++) {
                for (int steps = -7; steps <= 7; steps++) {
                    if (canon(distance, steps) == 0) list.add(100 * distance + 50 + steps);
                }
            }
            return list;
        }

        int canonAt(int index) {
            List<Integer> list = canons();
            if (index < 0 || index >= list.size()) throw new IndexOutOfBoundsException();
            return list.get(index);
        }

        float stepShare() {
            if (other.size() < 2) throw new ArithmeticException();
            int steps = 0;
            for (int i = 1; i < other.size(); i++) {
                if (Math.abs(move(other, i)) == 1) steps++;
            }
            return (float) steps / (float) (other.size() - 1);
        }

        double meanPitch() {
            if (other.isEmpty()) throw new ArithmeticException();
            int sum = 0;
            for (int i = 0; i < other.size(); i++) sum += pitch(other, i);
            return (double) sum / (double) other.size();
        }
    }
}
