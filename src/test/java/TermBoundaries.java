import java.util.function.Consumer;
import java.util.function.Supplier;

/** The boundary cases of the terms, but the laws. */
final class TermBoundaries extends Checks {
    private TermBoundaries() {
    }

    static void tell(Sentences document) {
        calls(document);
        notes(document);
        intervals(document);
        lines(document);
    }

    private static void term(Sentences document, String words, Call test) {
        document.test(Sentences.TERMS, words, test);
    }

    // ---- calls

    private static void calls(Sentences document) {
        term(document, "An object is used for at most 512 calls after it has been made", TermBoundaries::lastCall);
        term(document, "A method that throws an exception changes nothing", TermBoundaries::refusedForArguments);
        term(document, "A method that throws an exception changes nothing", TermBoundaries::refusedForState);
        term(document, "the exception that is listed first is thrown", TermBoundaries::firstException);
    }

    private static void lastCall() {
        Counterpointery x = house(2, 8, 10, 9, 8);
        for (int call = 6; call <= 510; call += 3) {
            x.feign(call % 2 == 0);
            x.find();
            due("the bars at call " + (call + 2), x.bars(), 0);
        }
        x.change(3, 12);
        due("call 512", x.noteAt(3), 12);
    }

    private static void dueUnchanged(String what, Supplier<Counterpointery> maker, Class<?> want,
            Consumer<Counterpointery> call) {
        Counterpointery x = maker.get();
        dueThrow(what, want, () -> call.accept(x));
        due("the state after " + what, everything(x), everything(maker.get()));
    }

    /** A whole line with faults, where all that can be set is not as at first. */
    private static Counterpointery set() {
        Counterpointery x = sing(house(2, 9, 10, 9), 4, 9, 8, 8, 7);
        x.lower(true);
        x.feign(true);
        x.range(3, 9);
        x.style(2);
        x.setLaw('s', 7);
        return x;
    }

    private static void refusedForArguments() {
        for (int note : NO_NOTES) {
            dueUnchanged("given " + note, TermBoundaries::set, ILLEGAL, x -> x.given(note));
            dueUnchanged("other " + note, TermBoundaries::set, ILLEGAL, x -> x.other(note));
            dueUnchanged("change to " + note, TermBoundaries::set, ILLEGAL, x -> x.change(1, note));
            dueUnchanged("range from " + note, TermBoundaries::set, ILLEGAL, x -> x.range(note, 9));
            dueUnchanged("range to " + note, TermBoundaries::set, ILLEGAL, x -> x.range(9, note));
        }
        for (int index : row(-1, 5)) {
            dueUnchanged("change at " + index, TermBoundaries::set, INDEX, x -> x.change(index, 9));
            dueUnchanged("noteAt " + index, TermBoundaries::set, INDEX, x -> x.noteAt(index));
            dueUnchanged("pitch " + index, TermBoundaries::set, INDEX, x -> x.pitch(index));
            dueUnchanged("interval " + index, TermBoundaries::set, INDEX, x -> x.interval(index));
        }
        for (int index : row(-1, 1000)) {
            dueUnchanged("faultAt " + index, TermBoundaries::set, INDEX, x -> x.faultAt(index));
            dueUnchanged("faultOf " + index, TermBoundaries::set, INDEX, x -> x.faultOf(index));
            dueUnchanged("barAt " + index, TermBoundaries::set, INDEX, x -> x.barAt(index));
            dueUnchanged("canonAt " + index, TermBoundaries::set, INDEX, x -> x.canonAt(index));
        }
        dueUnchanged("ratio 3", TermBoundaries::set, ILLEGAL, x -> x.ratio(3));
        dueUnchanged("a law that is none", TermBoundaries::set, ILLEGAL, x -> x.setLaw('a', 3));
        dueUnchanged("the weight 11", TermBoundaries::set, ILLEGAL, x -> x.setLaw('b', 11));
        dueUnchanged("the weight of none", TermBoundaries::set, ILLEGAL, x -> x.weight('a'));
        dueUnchanged("style 3", TermBoundaries::set, ILLEGAL, x -> x.style(3));
        dueUnchanged("a range too wide", TermBoundaries::set, ILLEGAL, x -> x.range(0, 10));
        dueUnchanged("a range of none", TermBoundaries::set, ILLEGAL, x -> x.range(6, 5));
        dueUnchanged("exchange by 6", TermBoundaries::set, ILLEGAL, x -> x.exchanged(6));
        dueUnchanged("canon at 13", TermBoundaries::set, ILLEGAL, x -> x.canon(13, 0));
        dueUnchanged("canon by 8", TermBoundaries::set, ILLEGAL, x -> x.canon(1, 8));
    }

    private static Counterpointery full() {
        Counterpointery x = house(1, 7, 8, 9, 10, 11, 12, 13, 14, 15, 16, 17, 18, 19, 20);
        return sing(x, 14, 13, 12);
    }

    private static Counterpointery ratioOf4() {
        return sing(house(4, 7, 8), 14, 13, 12);
    }

    private static Counterpointery unmendable() {
        return sing(house(1, 7, 8, 7), 14, 13, 14);
    }

    private static Counterpointery barred() {
        Counterpointery x = unmendable();
        x.range(0, 3);
        return x;
    }

    private static Counterpointery oneGiven() {
        return sing(house(1, 7), 14);
    }

    private static void refusedForState() {
        dueUnchanged("the 15th given", TermBoundaries::full, STATE, x -> x.given(5));
        dueUnchanged("other beyond all", TermBoundaries::set, STATE, x -> x.other(5));
        dueUnchanged("mend, not whole", TermBoundaries::full, STATE, Counterpointery::mend);
        dueUnchanged("exchange, not whole", TermBoundaries::full, STATE, x -> x.exchanged(7));
        dueUnchanged("mend for nothing", TermBoundaries::unmendable, NONE_SUCH, Counterpointery::mend);
        dueUnchanged("find none", TermBoundaries::barred, NONE_SUCH, Counterpointery::find);
        dueUnchanged("find, ratio 4", TermBoundaries::ratioOf4, UNSUPPORTED, Counterpointery::find);
        dueUnchanged("goodLines, ratio 4", TermBoundaries::ratioOf4, UNSUPPORTED, Counterpointery::goodLines);
        dueUnchanged("bars, ratio 4", TermBoundaries::ratioOf4, UNSUPPORTED, Counterpointery::bars);
        dueUnchanged("barAt, ratio 4", TermBoundaries::ratioOf4, UNSUPPORTED, x -> x.barAt(0));
        dueUnchanged("canon too far", TermBoundaries::ratioOf4, STATE, x -> x.canon(3, 0));
        dueUnchanged("find, one given", TermBoundaries::oneGiven, STATE, Counterpointery::find);
        dueUnchanged("goodLines, one given", TermBoundaries::oneGiven, STATE, Counterpointery::goodLines);
        dueUnchanged("bars, one given", TermBoundaries::oneGiven, STATE, Counterpointery::bars);
        dueUnchanged("barAt, one given", TermBoundaries::oneGiven, STATE, x -> x.barAt(0));
        dueUnchanged("canons of one note", TermBoundaries::oneGiven, STATE, Counterpointery::canons);
        dueUnchanged("canonAt of one note", TermBoundaries::oneGiven, STATE, x -> x.canonAt(0));
        dueUnchanged("stepShare of one note", TermBoundaries::oneGiven, ARITHMETIC, Counterpointery::stepShare);
        dueUnchanged("meanPitch of none", () -> house(2, 7, 8), ARITHMETIC, Counterpointery::meanPitch);
    }

    private static void firstException() {
        dueThrow("no note for a full given line", ILLEGAL, () -> full().given(28));
        dueThrow("no note for a full other line", ILLEGAL, () -> unmendable().other(28));
        dueThrow("no note at no index", INDEX, () -> unmendable().change(3, 28));
        for (int given = 0; given < 2; given++) {
            Counterpointery x = given == 0 ? house(4) : house(4, 7);
            dueThrow("find, both", STATE, x::find);
            dueThrow("goodLines, both", STATE, x::goodLines);
            dueThrow("bars, both", STATE, x::bars);
            dueThrow("barAt, all", STATE, () -> x.barAt(-1));
        }
        dueThrow("barAt, ratio 4", UNSUPPORTED, () -> ratioOf4().barAt(-1));
        Counterpointery barred = ratioOf4();
        barred.range(0, 0);
        dueThrow("find none, ratio 4", UNSUPPORTED, barred::find);
        dueThrow("mend for nothing, not whole", STATE, () -> sing(house(1, 7, 8), 14).mend());
        dueThrow("exchange by 15, not whole", ILLEGAL, () -> ratioOf4().exchanged(15));
        dueThrow("canon at 13, too far", ILLEGAL, () -> ratioOf4().canon(13, 0));
        dueThrow("canon by -8, too far", ILLEGAL, () -> ratioOf4().canon(12, -8));
        dueThrow("canonAt no index of one note", STATE, () -> oneGiven().canonAt(-1));
    }

    // ---- notes

    private static void notes(Sentences document) {
        term(document, "A note is a number from 0 to 27", TermBoundaries::noteBounds);
        term(document, "its pitch in semitones is 12 for each 7 steps", TermBoundaries::pitches);
        term(document, "The given line has at most 14 notes", TermBoundaries::mostGiven);
        term(document, "against its last one, which has one", TermBoundaries::notesAgainstEach);
        term(document, "The other line is whole, if it has all these, and the given line at least 2",
                TermBoundaries::wholeLines);
        term(document, "strong, if it is the first one against a given one, otherwise weak",
                TermBoundaries::strongNotes);
        term(document, "the other line has all notes that it can have", TermBoundaries::feignedWithAllNotes);
        term(document, "the note ahead of its last one is a semitone higher", TermBoundaries::feignedPlace);
        term(document, "if it is a step lower than the last one, and 2 semitones", TermBoundaries::feignedStep);
    }

    private static void noteBounds() {
        for (int note : row(0, 27)) {
            Counterpointery x = new Counterpointery();
            due("given " + note, x.given(note), 1);
            due("other " + note, x.other(note), 1);
            due("changed to " + note, x.change(0, note), note);
            due("range " + note, x.range(note, note), 1);
        }
        for (int note : NO_NOTES) {
            Counterpointery x = sing(house(1, 7, 8), 14);
            dueThrow("given " + note, ILLEGAL, () -> x.given(note));
            dueThrow("other " + note, ILLEGAL, () -> x.other(note));
            dueThrow("change to " + note, ILLEGAL, () -> x.change(0, note));
            dueThrow("range " + note, ILLEGAL, () -> x.range(note, note));
        }
    }

    private static void pitches() {
        int[] above = {0, 2, 4, 5, 7, 9, 11};
        Counterpointery x = sing(house(1, 7), 0);
        for (int note = 0; note <= 27; note++) {
            x.change(0, note);
            due("pitch of " + note, x.pitch(0), note / 7 * 12 + above[note % 7]);
        }
    }

    private static void mostGiven() {
        Counterpointery x = full();
        dueThrow("the 15th given", STATE, () -> x.given(0));
        Counterpointery y = house(1, 7, 8, 9, 10, 11, 12, 13, 14, 15, 16, 17, 18, 19);
        due("the 14th given", y.given(20), 14);
    }

    private static void notesAgainstEach() {
        int[][] due = {{1, 0, 0}, {1, 1, 1}, {1, 2, 2}, {1, 3, 3}, {1, 14, 14}, {2, 1, 1}, {2, 2, 3}, {2, 3, 5},
            {2, 14, 27}, {4, 0, 0}, {4, 1, 1}, {4, 2, 5}, {4, 3, 9}, {4, 14, 53}};
        for (int[] one : due) {
            Counterpointery x = house(one[0]);
            for (int i = 0; i < one[1]; i++) {
                x.given(7);
            }
            for (int i = 1; i <= one[2]; i++) {
                due("note with ratio " + one[0], x.other(14), i);
            }
            dueThrow("note " + one[2] + " with ratio " + one[0], STATE, () -> x.other(14));
        }
    }

    private static void wholeLines() {
        for (int ratio : row(1, 2, 4)) {
            Counterpointery x = houseOf("", ratio, 7);
            x.other(14);
            due("one given note is whole with ratio " + ratio, x.isGood(), false);
            x.given(8);
            due("an empty line is whole", x.isGood(), false);
            for (int i = 0; i < ratio; i++) {
                x.other(14);
                due("a line without its last note is whole", x.isGood(), false);
            }
            x.other(14);
            due("all notes are whole with ratio " + ratio, x.isGood(), true);
        }
        due("no line is whole", houseOf("", 1).isGood(), false);
    }

    private static void strongNotes() {
        String[] due = {"0d 1d 2d", "0d 2d 4d", "", "0d 4d 8d"};
        for (int ratio : row(1, 2, 4)) {
            Counterpointery x = houseOf("d", ratio, 7, 7, 7);
            for (int i = 0; i <= 2 * ratio; i++) {
                x.other(8);
            }
            due("seconds with ratio " + ratio, told(x), due[ratio - 1]);
        }
    }

    private static Counterpointery feigned(int ratio, int... given) {
        Counterpointery x = house(ratio, given);
        x.feign(true);
        return x;
    }

    private static void feignedWithAllNotes() {
        for (int ratio : row(1, 2, 4)) {
            Counterpointery x = feigned(ratio, 7, 7, 7);
            for (int i = 0; i < 2 * ratio; i++) {
                x.other(14 + i % 2);
                due("not yet feigned", i > 0 ? x.pitch(i - 1) : 24, i % 2 == 1 ? 24 : i > 0 ? 26 : 24);
            }
            x.change(2 * ratio - 1, 14);
            x.other(15);
            due("feigned with ratio " + ratio, x.pitch(2 * ratio - 1), 25);
            x.clear(false);
            x.other(14);
            x.other(15);
            due("no longer all notes", x.pitch(0), 24);
        }
        due("one note has none ahead", sing(feigned(1, 7), 14).pitch(0), 24);
    }

    private static void feignedPlace() {
        Counterpointery x = sing(feigned(1, 7, 7, 7, 7), 14, 15, 14, 15);
        due("the first of four", x.pitch(0), 24);
        due("the second of four", x.pitch(1), 26);
        due("the third of four", x.pitch(2), 25);
        due("the last of four", x.pitch(3), 26);
        due("its number stays", x.noteAt(2), 14);
        due("the first of two", sing(feigned(1, 7, 7), 14, 15).pitch(0), 25);
        due("not if it is not told", sing(house(1, 7, 7), 14, 15).pitch(0), 24);
    }

    private static void feignedStep() {
        // From each white key a step up: E to F and B to C are 1 semitone.
        int[] due = {1, 3, 4, 6, 8, 10, 11};
        for (int note = 0; note < 7; note++) {
            due("a step below, " + note, sing(feigned(1, 7, 7), note, note + 1).pitch(0), due[note]);
        }
        for (int last : row(12, 13, 14, 16, 17, 21, 22)) {
            due("D ahead of " + last, sing(feigned(1, 7, 7), 14 + 1, last).pitch(0), last == 16 ? 27 : 26);
        }
        due("the highest step", sing(feigned(1, 7, 7), 26, 27).pitch(0), 46);
    }

    // ---- intervals

    private static void intervals(Sentences document) {
        term(document, "how many steps they are apart, either way, modulo 7", TermBoundaries::intervalsEitherWay);
        term(document, "feigned ones counted; two are the same if both numbers are", TermBoundaries::feignedIntervals);
        term(document, "two are the same if both numbers are", TermBoundaries::sameIntervals);
        term(document, "It is perfect, if it is 0 and 0, or 4 and 7; imperfect", TermBoundaries::kindsOfIntervals);
        term(document, "A voice moves by the steps from a note to the next one", TermBoundaries::moves);
        term(document, "it leaps by more than 1", TermBoundaries::leaps);
    }

    private static void dueInterval(int given, int note, char want) {
        Counterpointery x = sing(house(1, given), note);
        due("interval of " + note + " with " + given, x.interval(0), want);
    }

    private static void intervalsEitherWay() {
        for (int octave = 0; octave < 28; octave += 7) {
            dueInterval(0, octave, 'u');
            dueInterval(octave, 0, 'u');
            dueInterval(0, octave + 4, 'f');
            dueInterval(octave + 4, 0, 'f');
            dueInterval(octave + 2, 0, 'i');
            dueInterval(0, octave + 6, 'd');
            dueInterval(octave + 6, 0, 'd');
        }
        dueInterval(6, 7, 'd');
        dueInterval(0, 27, 'd');
        dueInterval(27, 0, 'd');
    }

    private static void feignedIntervals() {
        // The last is a step and 2 semitones above, so each note ahead of it is sharpened.
        int[][] notes = {{14, 7}, {14, 21}, {17, 6}, {17, 13}, {11, 7}, {8, 6}, {15, 6}, {12, 7}, {12, 9}, {12, 14}};
        char[] due = {'d', 'd', 'f', 'f', 'd', 'i', 'i', 'd', 'd', 'd'};
        for (int i = 0; i < due.length; i++) {
            Counterpointery x = sing(feigned(1, notes[i][1], 7), notes[i][0], notes[i][0] + 1);
            due("feigned interval of " + notes[i][0] + " with " + notes[i][1], x.interval(0), due[i]);
        }
    }

    private static void sameIntervals() {
        Counterpointery x = houseOf("p", 1, 6, 7, 8);
        due("of two fifths the first is diminished", told(sing(x, 10, 11)), "");
        due("two fifths", told(sing(x, 6, 11, 12)), "2p");
        due("a fifth and a twelfth", told(sing(x, 6, 11, 19)), "2p");
        due("a fifth and an octave", told(sing(x, 6, 11, 15)), "");
        due("a unison and an octave", told(sing(x, 6, 14)), "1p");
    }

    private static void kindsOfIntervals() {
        // Each note of two octaves above each white key, by steps and semitones apart.
        for (int given = 7; given < 14; given++) {
            for (int steps = 0; steps <= 14; steps++) {
                int semitones = pitchOf(given + steps) - pitchOf(given);
                dueInterval(given, given + steps, kindOf(steps % 7 * 100 + semitones % 12));
            }
        }
    }

    private static int pitchOf(int note) {
        return sing(house(1, 7), note).pitch(0);
    }

    private static char kindOf(int interval) {
        switch (interval) {
            case 0: return 'u';
            case 407: return 'f';
            case 203: case 204: case 508: case 509: return 'i';
            default: return 'd';
        }
    }

    private static void moves() {
        due("a fifth held by one voice", told(sing(houseOf("p", 1, 7, 7, 7), 11, 18)), "");
        due("the share of steps", sing(house(1, 7, 7, 7, 7, 7), 14, 15, 14, 14, 16).stepShare(), 0.5f);
    }

    private static void leaps() {
        Counterpointery x = houseOf("h", 1, 7, 9);
        due("one step to a fifth", told(sing(x, 12, 13)), "");
        due("two steps to a fifth", told(sing(x, 11, 13)), "1h");
        due("two steps down to a fifth", told(sing(houseOf("h", 1, 9, 7), 13, 11)), "1h");
    }

    // ---- lines

    private static void lines(Sentences document) {
        term(document, "A law has a weight, 0 for none, up to 9 for what is merely bad, 10 for what is forbidden",
                TermBoundaries::weights);
        term(document, "The cost of a line is the sum of the weights of its faults", TermBoundaries::costs);
        term(document, "A line is good, if no fault of a law with the weight 10 is in it", TermBoundaries::goodness);
        term(document, "has notes from the lowest one to the greatest one that are told", TermBoundaries::rangeOfBest);
        term(document, "is whole and good, and has the least cost", TermBoundaries::leastCost);
        term(document, "of several the first one by its notes, the lower ones first", TermBoundaries::firstOfSeveral);
        term(document, "If no line is good, laws bar it", TermBoundaries::noBars);
        term(document, "of those with the weight 10, in the order above", TermBoundaries::orderOfBars);
        term(document, "without it and those left out before; what remains bars it", TermBoundaries::remainingBars);
    }

    /** Its other line is a fifth that moves in parallel, has one such fault, and nothing else. */
    private static Counterpointery parallel() {
        return sing(houseOf("p", 1, 7, 8), 11, 12);
    }

    private static void weights() {
        int[] costs = {0, 1, 9, 10};
        for (int weight : costs) {
            Counterpointery x = parallel();
            x.setLaw('p', weight);
            due("faults with the weight " + weight, x.faults(), weight == 0 ? 0 : 1);
            due("cost with the weight " + weight, x.cost(), weight);
            due("good with the weight " + weight, x.isGood(), weight < 10);
            due("lines with the weight " + weight, x.goodLines(), weight < 10 ? 100L : 95L);
        }
    }

    private static void costs() {
        Counterpointery x = sing(house(1, 7, 8, 9), 11, 12, 13);
        due("two parallels and an ill end", x.cost(), 30);
        for (int i = 0; i < LAWS.length(); i++) {
            x.setLaw(LAWS.charAt(i), i % 10);
        }
        due("twice law 4, once law 1", x.cost(), 4 + 4 + 1);
        allWeights(x, 0);
        due("no weights", x.cost(), 0);
    }

    private static void goodness() {
        Counterpointery x = parallel();
        due("one forbidden fault", x.isGood(), false);
        x.setLaw('p', 9);
        due("one bad fault", x.isGood(), true);
        x.setLaw('b', 10);
        due("a forbidden law without a fault", x.isGood(), true);
        allWeights(x, 9);
        due("bad faults only", x.isGood(), true);
        due("though there are some", x.faults(), 2);
    }

    private static void rangeOfBest() {
        // The first note is to be perfect, which of 14 to 18 the two ends alone are.
        Counterpointery x = houseOf("b", 1, 7, 7);
        x.setLaw('x', 10);
        x.range(14, 18);
        x.find();
        due("from the lowest one", line(x), "14 14");
        x.range(15, 18);
        x.find();
        due("to the greatest one", line(x), "18 15");
        x.range(15, 17);
        dueThrow("and no other", NONE_SUCH, x::find);
    }

    private static void leastCost() {
        Counterpointery x = houseOf("", 1, 7, 8, 7);
        x.setLaw('s', 3);
        x.setLaw('u', 1);
        x.setLaw('b', 2);
        x.range(8, 8);
        due("one line is all", x.find(), 3 + 3 + 1 + 2);
        x.range(7, 8);
        due("the least of eight lines", x.find(), 1);
        due("that line", line(x), "7 8 7");
        x.setLaw('u', 10);
        due("the least good one", x.find(), 2);
        due("that line, which is whole", line(x), "8 7 8");
    }

    private static void firstOfSeveral() {
        for (int ratio : row(1, 2)) {
            Counterpointery x = houseOf("s", ratio, 7, 8, 7);
            x.find();
            due("the first one", line(x), ratio == 1 ? "7 8 7" : "7 8 7 8 7");
            x.setLaw('s', 0);
            x.setLaw('u', 2);
            x.find();
            due("the first one without unisons", line(x), ratio == 1 ? "7 7 7" : "7 8 7 7 7");
        }
        Counterpointery end = houseOf("e", 1, 7, 8, 7);
        end.find();
        due("the last notes decide", line(end), "7 13 14");
        end.feign(true);
        end.find();
        due("also if they can be feigned", line(end), "7 13 14");
    }

    private static void noBars() {
        Counterpointery x = house(1, 8, 10, 9, 8);
        due("a line is good", barsOf(x), "");
        x.range(10, 13);
        dueThrow("no line is good", NONE_SUCH, x::find);
        due("laws bar it", x.bars() > 0, true);
        allWeights(x, 9);
        due("bad laws bar nothing", barsOf(x), "");
        x.find();
        due("as a line is found", x.notes(), 4);
    }

    private static void orderOfBars() {
        // The only line has a fault of each of these laws.
        Counterpointery x = houseOf("", 1, 7, 7);
        x.range(10, 10);
        x.lower(true);
        String laws = "bedxs";
        for (int from = 0; from < laws.length(); from++) {
            allWeights(x, 0);
            for (int i = laws.length() - 1; i >= from; i--) {
                x.setLaw(laws.charAt(i), i % 2 == from % 2 ? 10 : 9);
            }
            due("of the forbidden ones the last in order", barsOf(x), from % 2 == 0 ? "s" : "x");
        }
    }

    private static void remainingBars() {
        // The range has an octave for the first note, but none that both voices come to by contrary steps.
        Counterpointery x = houseOf("be", 1, 7, 8, 7);
        x.range(14, 15);
        due("the law that some line keeps is left out", barsOf(x), "e");
        Counterpointery both = houseOf("se", 1, 7, 8, 7);
        both.range(14, 14);
        due("each alone bars, so the later one remains", barsOf(both), "s");
        Counterpointery pair = houseOf("ds", 1, 7, 7);
        pair.range(9, 10);
        due("only together they bar, so both remain", barsOf(pair), "ds");
        pair.setLaw('x', 10);
        due("a third law has no part in it", barsOf(pair), "ds");
    }
}
