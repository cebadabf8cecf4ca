import java.math.BigInteger;

/** Each promise by hand: ordinary calls, the edges that the document names, and wrong calls. */
public final class PromiseTest extends Checks {
    /** The faults in style 1, of a line that may not be whole. */
    private static void dueFaults(String want, int ratio, int[] given, int... notes) {
        dueFaultsIn(house(ratio, given), "higher line", want, notes);
    }

    private static void dueFaultsBelow(String want, int ratio, int[] given, int... notes) {
        Counterpointery x = house(ratio, given);
        x.lower(true);
        dueFaultsIn(x, "lower line", want, notes);
    }

    private static void dueFaultsFeigned(String want, int ratio, int[] given, int... notes) {
        Counterpointery x = house(ratio, given);
        x.feign(true);
        dueFaultsIn(x, "feigned line", want, notes);
    }

    private static void dueFaultsIn(Counterpointery x, String what, String want, int... notes) {
        x.style(1);
        sing(x, notes);
        due("faults of the " + what + " " + line(x), told(x), want);
    }

    // ---- lines

    private static void newObject() {
        Counterpointery x = new Counterpointery();
        due("new notes", x.notes(), 0);
        due("new ratio", x.ratio(1), 1);
        due("new lower", x.lower(false), false);
        due("new feign", x.feign(false), false);
        due("new style", x.style(0), 0);
        due("new faults", x.faults(), 0);
        due("new cost", x.cost(), 0);
        due("new isGood", x.isGood(), false);
        due("new isConsistent", x.isConsistent(), true);
        due("new first given", x.given(3), 1);
    }

    private static void given() {
        Counterpointery x = new Counterpointery();
        for (int note : NO_NOTES) {
            dueThrow("given " + note, ILLEGAL, () -> x.given(note));
        }
        due("given 0", x.given(0), 1);
        due("given 27", x.given(27), 2);
        x.other(1);
        x.other(2);
        due("given empties", x.given(5), 3);
        due("other is empty then", x.notes(), 0);
        x.other(9);
        dueThrow("given 28", ILLEGAL, () -> x.given(28));
        due("a refused note empties nothing", x.notes(), 1);
        for (int i = 4; i <= 14; i++) {
            due("given", x.given(i), i);
        }
        x.other(9);
        dueThrow("the 15th given", STATE, () -> x.given(4));
        dueThrow("the 15th given, wrong", ILLEGAL, () -> x.given(-1));
        due("a full line empties nothing", x.notes(), 1);
    }

    private static void other() {
        Counterpointery x = new Counterpointery();
        dueThrow("other without given", STATE, () -> x.other(0));
        dueThrow("other without given, wrong", ILLEGAL, () -> x.other(28));
        x.given(7);
        for (int note : NO_NOTES) {
            dueThrow("other " + note, ILLEGAL, () -> x.other(note));
        }
        due("other 0", x.other(0), 1);
        dueThrow("other beyond one", STATE, () -> x.other(0));
        for (int ratio = 1; ratio <= 4; ratio *= 2) {
            Counterpointery y = house(ratio, 1, 2, 3);
            for (int i = 1; i <= 2 * ratio + 1; i++) {
                due("other with ratio " + ratio, y.other(27), i);
            }
            dueThrow("other beyond all", STATE, () -> y.other(3));
            dueThrow("other beyond all, wrong", ILLEGAL, () -> y.other(-1));
        }
        Counterpointery longest = house(4, 1, 2, 3, 4, 5, 6, 7, 8, 9, 10, 11, 12, 13, 14);
        for (int i = 1; i <= 53; i++) {
            due("other, longest", longest.other(i % 28), i);
        }
        dueThrow("other beyond the longest", STATE, () -> longest.other(3));
        due("last of the longest", longest.noteAt(52), 25);
    }

    private static void change() {
        Counterpointery x = sing(house(1, 7, 8, 9), 14, 15);
        due("change", x.change(1, 0), 15);
        due("change again", x.change(1, 27), 0);
        due("changed", line(x), "14 27");
        for (int index : new int[] {-1, 2, 3, Integer.MIN_VALUE, Integer.MAX_VALUE}) {
            dueThrow("change at " + index, INDEX, () -> x.change(index, 5));
            dueThrow("change at " + index + ", wrong", INDEX, () -> x.change(index, 28));
        }
        for (int note : NO_NOTES) {
            dueThrow("change to " + note, ILLEGAL, () -> x.change(0, note));
        }
        due("unchanged", line(x), "14 27");
    }

    private static void clear() {
        Counterpointery x = sing(house(2, 7, 8, 9), 14, 15, 16);
        due("clear the other", x.clear(false), 3);
        due("empty", x.notes(), 0);
        due("the given one stays", x.given(9), 4);
        due("clear an empty one", x.clear(false), 0);
        x.other(4);
        due("clear both", x.clear(true), 1);
        dueThrow("nothing given", STATE, () -> x.other(4));
        due("given anew", x.given(9), 1);
        due("the ratio stays", x.ratio(1), 2);
    }

    private static void ratio() {
        Counterpointery x = sing(house(1, 7, 8), 14, 15);
        for (int ratio : new int[] {0, 3, 5, 8, -1, -2, Integer.MIN_VALUE, Integer.MAX_VALUE}) {
            dueThrow("ratio " + ratio, ILLEGAL, () -> x.ratio(ratio));
        }
        due("kept", line(x), "14 15");
        due("the same ratio", x.ratio(1), 1);
        due("empties too", x.notes(), 0);
        x.other(3);
        due("ratio 2", x.ratio(2), 1);
        due("ratio 4", x.ratio(4), 2);
        due("ratio 1", x.ratio(1), 4);
        due("emptied", x.notes(), 0);
    }

    private static void lower() {
        Counterpointery x = sing(house(1, 7, 8), 14);
        due("lower", x.lower(true), false);
        due("lower again", x.lower(true), true);
        due("lines stay", line(x), "14");
        due("on the wrong side", told(x), "0x");
        due("higher", x.lower(false), true);
        due("on the right side", told(x), "");
    }

    private static void feign() {
        Counterpointery x = sing(house(1, 7, 8, 7), 14, 15);
        due("feign", x.feign(true), false);
        due("feign again", x.feign(true), true);
        due("not yet whole", x.pitch(0), 24);
        x.other(16);
        due("feigned D E", x.pitch(1), 27);
        due("its interval", x.interval(1), 'd');
        due("the last", x.pitch(2), 28);
        due("the first", x.pitch(0), 24);
        x.change(2, 17);
        due("not a step", x.pitch(1), 26);
        x.change(2, 14);
        due("a step down", x.pitch(1), 26);
        sing(x, 14, 16, 17);
        due("E F is a half step", x.pitch(1), 28);
        sing(x, 14, 13, 14);
        due("B C is a half step", x.pitch(1), 23);
        sing(x, 13, 14, 15);
        due("C D", x.pitch(1), 25);
        due("not feigned", x.feign(false), true);
        due("C D plain", x.pitch(1), 24);
        Counterpointery one = sing(house(1, 7), 14);
        one.feign(true);
        due("one note", one.pitch(0), 24);
        Counterpointery two = sing(house(1, 7, 8), 14, 15);
        two.feign(true);
        due("the first of two", two.pitch(0), 25);
    }

    private static void notes() {
        Counterpointery x = house(2, 7, 8, 9);
        due("no notes", x.notes(), 0);
        due("two notes", sing(x, 1, 2).notes(), 2);
        due("five notes", sing(x, 1, 2, 3, 4, 5).notes(), 5);
    }

    private static void readNotes() {
        Counterpointery x = sing(house(1, 7, 8, 9), 0, 27);
        due("noteAt 0", x.noteAt(0), 0);
        due("noteAt 1", x.noteAt(1), 27);
        for (int index : new int[] {-1, 2, 3, 53, Integer.MIN_VALUE, Integer.MAX_VALUE}) {
            dueThrow("noteAt " + index, INDEX, () -> x.noteAt(index));
            dueThrow("pitch " + index, INDEX, () -> x.pitch(index));
            dueThrow("interval " + index, INDEX, () -> x.interval(index));
        }
        int[] pitches = {0, 2, 4, 5, 7, 9, 11, 12, 14, 16, 17, 19, 21, 23, 24, 26, 28, 29, 31, 33, 35, 36, 38, 40, 41,
            43, 45, 47};
        for (int note = 0; note < 28; note++) {
            x.change(0, note);
            due("pitch of " + note, x.pitch(0), pitches[note]);
        }
    }

    private static void interval() {
        // Over C: unison, second, third, fourth, fifth, sixth, seventh, and so on.
        String kinds = "udidfid";
        for (int note = 7; note < 28; note++) {
            Counterpointery x = sing(house(1, 7, 8), note);
            due("interval over C of " + note, x.interval(0), kinds.charAt((note - 7) % 7));
        }
        due("F under C", sing(house(1, 7), 3).interval(0), 'f');
        due("G under C", sing(house(1, 7), 4).interval(0), 'd');
        due("A under C", sing(house(1, 7), 5).interval(0), 'i');
        due("E under C", sing(house(1, 7), 2).interval(0), 'i');
        due("B over F, augmented", sing(house(1, 10), 13).interval(0), 'd');
        due("F over B, diminished", sing(house(1, 6), 10).interval(0), 'd');
        due("D over B", sing(house(1, 6), 8).interval(0), 'i');
        due("G over B", sing(house(1, 6), 11).interval(0), 'i');
        due("far octave", sing(house(1, 27), 6).interval(0), 'u');
        Counterpointery x = sing(house(1, 7, 8, 9), 14, 15, 16);
        x.feign(true);
        due("a feigned octave", x.interval(1), 'd');
        Counterpointery weak = sing(house(2, 7, 8), 14, 12, 8);
        due("a weak note is against the first", weak.interval(1), 'i');
        due("the last is against the last", weak.interval(2), 'u');
    }

    // ---- laws and faults

    private static void setLaw() {
        Counterpointery x = new Counterpointery();
        due("q", x.setLaw('q', 10), 5);
        due("q again", x.setLaw('q', 0), 10);
        due("q read", x.weight('q'), 0);
        for (char law : new char[] {'a', 'c', 'z', 'B', ' ', (char) 0, (char) 65535}) {
            dueThrow("law " + (int) law, ILLEGAL, () -> x.setLaw(law, 3));
            dueThrow("law " + (int) law + ", wrong", ILLEGAL, () -> x.setLaw(law, 11));
            dueThrow("weight of " + (int) law, ILLEGAL, () -> x.weight(law));
        }
        for (int weight : new int[] {-1, 11, Integer.MIN_VALUE, Integer.MAX_VALUE}) {
            dueThrow("weight " + weight, ILLEGAL, () -> x.setLaw('b', weight));
        }
        due("b stays", x.weight('b'), 10);
    }

    private static void style() {
        Counterpointery x = new Counterpointery();
        int[][] styles = {
            {10, 10, 10, 10, 10, 5, 3, 10, 2, 1, 10, 4},
            {10, 10, 10, 10, 10, 10, 10, 10, 10, 10, 10, 10},
            {0, 10, 10, 10, 10, 0, 0, 10, 0, 0, 3, 0},
        };
        int[][] changes = {{0, 5, 7}, {5, 0, 7}, {7, 7, 0}};
        for (int from = 0; from < 3; from++) {
            for (int to = 0; to < 3; to++) {
                x.style(from);
                due("style " + from + " to " + to, x.style(to), changes[from][to]);
                for (int law = 0; law < 12; law++) {
                    due("weight of " + LAWS.charAt(law), x.weight(LAWS.charAt(law)), styles[to][law]);
                }
            }
        }
        for (int style : new int[] {-1, 3, Integer.MIN_VALUE, Integer.MAX_VALUE}) {
            dueThrow("style " + style, ILLEGAL, () -> x.style(style));
        }
        x.setLaw('b', 7);
        due("one own weight", x.style(2), 1);
    }

    private static void lawsOfPlace() {
        int[] given = row(7, 8, 7);
        dueFaults("0b", 1, given, 9);
        dueFaults("", 1, given, 11);
        dueFaults("", 1, given, 14);
        dueFaults("", 1, given, 7);
        dueFaults("0b 0d", 1, given, 10);
        dueFaults("0b 0x", 1, given, 3);
        dueFaultsBelow("0b", 1, given, 3);
        dueFaultsBelow("", 1, given, 0);
        dueFaultsBelow("0x", 1, given, 11);
        dueFaults("1d", 1, given, 14, 11);
        dueFaults("1p 1u", 1, given, 7, 8);
        dueFaults("1u", 1, given, 11, 8);
        dueFaults("", 1, given, 14, 13);
        dueFaults("1x", 1, given, 7, 6);
        dueFaultsBelow("1x", 1, given, 7, 10);
    }

    private static void lawOfEnd() {
        int[] given = row(7, 8, 7);
        dueFaults("", 1, given, 14, 13, 14);
        dueFaults("1p 2e 2p", 1, given, 14, 15, 14);
        dueFaults("2e", 1, given, 14, 12, 14);
        dueFaults("2e 2h", 1, given, 14, 13, 11);
        dueFaults("2e", 1, row(7, 9, 7), 14, 13, 14);
        dueFaults("0b 1d 2e 2s", 1, row(7, 8, 7), 16, 14, 14);
        dueFaults("0e", 1, row(7), 14);
        dueFaults("0e", 4, row(7), 14);
        dueFaults("0b 0e", 1, row(7), 9);
        dueFaults("2e", 1, row(7, 8, 8), 14, 13, 15);
    }

    private static void lawsOfDissonance() {
        int[] given = row(7, 8);
        dueFaults("2e", 2, given, 14, 13, 12);
        dueFaults("", 2, given, 14, 13);
        dueFaults("2e 2d 2w", 2, given, 14, 13, 14);
        dueFaults("2e 2w 2t", 2, given, 14, 13, 10);
        dueFaults("2e 2d 2w", 2, given, 11, 13, 14);
        dueFaults("3w", 4, given, 11, 12, 13, 12);
    }

    private static void lawsOfParallels() {
        dueFaults("1p", 1, row(7, 8, 7), 11, 12);
        dueFaults("", 1, row(7, 7, 7), 11, 14);
        dueFaults("1u 1s", 1, row(7, 14, 7, 9), 14, 14);
        dueFaults("2q", 2, row(7, 8, 7), 14, 16, 15);
        dueFaults("2p", 2, row(7, 8, 7), 11, 14, 15);
        dueFaults("1h", 1, row(7, 8, 7), 11, 15);
        dueFaults("", 1, row(8, 7, 7), 12, 14);
        dueFaults("1p 1h", 1, row(7, 9, 7), 11, 13);
        dueFaults("4p 4q", 4, row(7, 8, 7), 14, 12, 11, 14, 15);
        dueFaults("4q", 4, row(7, 8, 7), 14, 12, 14, 16, 15);
    }

    private static void lawsOfMoves() {
        int[] given = row(4, 4, 4, 4, 4);
        dueFaults("1s", 1, row(7, 7, 7), 14, 14);
        dueFaults("1d 1t", 1, given, 18, 24);
        dueFaults("", 1, row(0, 0, 0), 14, 21);
        dueFaults("1t", 1, row(0, 0, 0), 14, 23);
        dueFaults("1t", 1, row(3, 4, 5), 10, 13);
        dueFaults("2r", 1, row(7, 7, 7, 7), 14, 18, 16);
        dueFaults("", 1, row(7, 7, 5, 7), 7, 11, 10);
        dueFaults("2s 2r", 1, row(7, 7, 7, 7), 14, 18, 18);
        dueFaults("2r", 1, row(7, 7, 7, 7), 18, 14, 12);
        dueFaults("2p", 1, row(7, 7, 8, 7), 18, 14, 15);
        dueFaults("", 1, row(7, 7, 7, 7), 14, 16, 18);
    }

    private static void lawsFeigned() {
        int[] given = row(8, 10, 9);
        dueFaultsFeigned("1d 1t", 1, given, 22, 15, 16);
        due("that leap is one of 11 semitones", leapOfSeven(true), "1t");
        due("and otherwise of 12", leapOfSeven(false), "");
    }

    private static String leapOfSeven(boolean feigned) {
        Counterpointery x = house(1, 8, 8, 9);
        allWeights(x, 0);
        x.setLaw('t', 1);
        x.feign(feigned);
        sing(x, 22, 15, 16);
        return told(x);
    }

    private static void faults() {
        Counterpointery x = house(2, 7, 9, 8, 7);
        sing(x, 14, 13, 11, 12, 13, 13, 14);
        due("faults of style 0", told(x), "2w 5s");
        due("their number", x.faults(), 2);
        due("their cost", x.cost(), 11);
        x.setLaw('w', 0);
        due("a law without weight", told(x), "5s");
        due("its cost", x.cost(), 1);
        x.setLaw('s', 9);
        due("its new cost", x.cost(), 9);
        x.setLaw('s', 0);
        due("no faults", x.faults(), 0);
        for (int index : new int[] {-1, 0, 1, Integer.MIN_VALUE, Integer.MAX_VALUE}) {
            dueThrow("faultAt " + index, INDEX, () -> x.faultAt(index));
            dueThrow("faultOf " + index, INDEX, () -> x.faultOf(index));
        }
        x.style(0);
        dueThrow("faultAt 2", INDEX, () -> x.faultAt(2));
        dueThrow("faultOf 2", INDEX, () -> x.faultOf(2));
        due("faultAt 1", x.faultAt(1), 5);
        due("faultOf 1", x.faultOf(1), 's');
    }

    private static void isGood() {
        Counterpointery x = sing(house(1, 7, 8, 7), 14, 13);
        due("not whole", x.isGood(), false);
        x.other(14);
        due("whole and good", x.isGood(), true);
        x.change(1, 15);
        due("parallels", x.isGood(), false);
        x.setLaw('p', 9);
        due("and an ill end", x.isGood(), false);
        x.setLaw('e', 9);
        due("merely bad", x.isGood(), true);
        Counterpointery one = sing(house(1, 7), 14);
        allWeights(one, 0);
        due("one given note is not whole", one.isGood(), false);
    }

    private static void mend() {
        Counterpointery x = sing(house(1, 7, 8, 7), 14, 15);
        dueThrow("mend what is not whole", STATE, x::mend);
        x.other(14);
        due("cost ahead", x.cost(), 30);
        due("mend", x.mend(), 1);
        due("mended", line(x), "14 13 14");
        dueThrow("nothing to mend", NONE_SUCH, x::mend);
        due("still", line(x), "14 13 14");
        Counterpointery one = sing(house(1, 7), 15);
        dueThrow("mend one note", STATE, one::mend);
        Counterpointery ties = sing(house(1, 7, 7), 9, 10);
        allWeights(ties, 0);
        ties.setLaw('x', 2);
        ties.setLaw('d', 3);
        due("mend a tie", ties.mend(), 1);
        due("the lowest note without a fault", line(ties), "9 7");
        Counterpointery first = sing(house(1, 7, 7), 10, 10);
        allWeights(first, 0);
        first.setLaw('d', 3);
        due("mend the least index", first.mend(), 0);
        due("with the lowest note", line(first), "0 10");
    }

    // ---- search

    private static void range() {
        Counterpointery x = house(1, 7, 8);
        allWeights(x, 0);
        due("all lines of 7 to 16", x.goodLines(), 100L);
        x.find();
        due("the first of all", line(x), "7 7");
        due("range", x.range(0, 9), 10);
        due("range of one", x.range(27, 27), 1);
        due("one line", x.goodLines(), 1L);
        int[][] wrongs = {{-1, 3}, {3, 28}, {28, 28}, {5, 4}, {27, 0}, {0, 10}, {18, 28}, {17, 27}, {-5, -5},
            {Integer.MIN_VALUE, Integer.MAX_VALUE}, {Integer.MAX_VALUE, Integer.MIN_VALUE}};
        for (int[] pair : wrongs) {
            dueThrow("range " + pair[0] + " " + pair[1], ILLEGAL, () -> x.range(pair[0], pair[1]));
        }
        x.find();
        due("the range stays", line(x), "27 27");
        due("range at the top", x.range(18, 27), 10);
        due("lines stay", line(x), "27 27");
    }

    private static void searchRefusals() {
        Counterpointery x = new Counterpointery();
        for (int given = 0; given < 2; given++) {
            for (int ratio = 4; ratio >= 1; ratio /= 2) {
                x.ratio(ratio);
                dueThrow("find, too short", STATE, x::find);
                dueThrow("goodLines, too short", STATE, x::goodLines);
                dueThrow("bars, too short", STATE, x::bars);
                dueThrow("barAt, too short", STATE, () -> x.barAt(-1));
            }
            x.given(7);
        }
        x.ratio(4);
        dueThrow("find, ratio 4", UNSUPPORTED, x::find);
        dueThrow("goodLines, ratio 4", UNSUPPORTED, x::goodLines);
        dueThrow("bars, ratio 4", UNSUPPORTED, x::bars);
        dueThrow("barAt, ratio 4", UNSUPPORTED, () -> x.barAt(-1));
        x.ratio(1);
        x.range(0, 3);
        sing(x, 20);
        dueThrow("find none", NONE_SUCH, x::find);
        due("the line stays", line(x), "20");
    }

    private static void find() {
        Counterpointery x = house(1, 8, 10, 9, 8);
        sing(x, 3);
        due("the least cost", x.find(), 0);
        due("the best line", line(x), "8 15 14 15");
        due("how many", x.goodLines(), 8L);
        x.setLaw('b', 9);
        x.range(9, 16);
        due("another range", x.find(), x.cost());
        due("it is good", x.isGood(), true);
        Counterpointery feigned = house(1, 8, 10, 9, 8);
        feigned.feign(true);
        feigned.find();
        due("its last but one is feigned", feigned.pitch(2), 25);
        Counterpointery two = house(1, 8, 7);
        two.range(7, 16);
        two.setLaw('b', 5);
        due("two notes", two.find(), 5);
        due("their line", line(two), "13 14");
    }

    private static void goodLines() {
        Counterpointery x = house(2, 1, 2, 3, 4, 5, 6, 7, 8, 9, 10, 11, 12, 13, 14);
        allWeights(x, 0);
        x.range(7, 14);
        due("8 to the 27 wraps to 0", x.goodLines(), 0L);
        due("but some are found", x.find(), 0);
        due("27 notes", x.notes(), 27);
        due("the first", x.noteAt(26), 7);
        due("and nothing bars", x.bars(), 0);
        x.range(7, 16);
        due("10 to the 27 wraps", x.goodLines(), BigInteger.TEN.pow(27).longValue());
        x.ratio(1);
        due("10 to the 14", x.goodLines(), 100000000000000L);
        x.setLaw('s', 10);
        due("no note again", x.goodLines(), 25418658283290L);
        due("none again, the first of them", x.find(), 0);
        due("its line", line(x), "7 8 7 8 7 8 7 8 7 8 7 8 7 8");
    }

    private static void bars() {
        Counterpointery x = house(1, 12, 11, 12);
        x.range(12, 12);
        due("barred by", barsOf(x), "d");
        due("no good line", x.goodLines(), 0L);
        for (int index : new int[] {-1, 1, 2, Integer.MIN_VALUE, Integer.MAX_VALUE}) {
            dueThrow("barAt " + index, INDEX, () -> x.barAt(index));
        }
        x.setLaw('d', 9);
        due("the next one bars", barsOf(x), "e");
        x.setLaw('e', 9);
        due("nothing bars", x.bars(), 0);
        dueThrow("barAt 0", INDEX, () -> x.barAt(0));
        due("the one line is bad", x.find(), 9 + 9 + 1 + 1);
        Counterpointery y = house(1, 7, 8, 7);
        y.range(10, 10);
        due("weights stay", y.weight('b'), 10);
        due("d is left out ahead of none", barsOf(y), "d");
        y.setLaw('d', 0);
        due("b and e without d: e bars", barsOf(y), "e");
        y.setLaw('e', 0);
        due("b bars", barsOf(y), "b");
        y.setLaw('b', 0);
        due("no law bars", barsOf(y), "");
        y.lower(true);
        due("the side bars", barsOf(y), "x");
        y.style(1);
        y.setLaw('d', 9);
        due("of e, x and s the last bars", barsOf(y), "s");
        y.range(7, 8);
        y.style(0);
        due("two that bar", barsOf(y).length() > 0, true);
    }

    // ---- exchange and canons

    private static void exchanged() {
        Counterpointery x = sing(house(1, 7, 8, 7), 14, 13);
        dueThrow("exchange what is not whole", STATE, () -> x.exchanged(7));
        for (int steps : new int[] {6, 15, -7, 0, Integer.MIN_VALUE, Integer.MAX_VALUE}) {
            dueThrow("exchange by " + steps, ILLEGAL, () -> x.exchanged(steps));
        }
        x.other(14);
        due("by 7: unison, third, unison", x.exchanged(7), 0);
        due("by 8: second, fourth, second", x.exchanged(8), 3);
        due("by 9: third, fifth B E, diminished none", x.exchanged(9), 0);
        due("by 10: fourth, sixth, fourth", x.exchanged(10), 2);
        due("by 11: fifth, seventh, fifth", x.exchanged(11), 1);
        due("by 14: octave", x.exchanged(14), 0);
        Counterpointery low = sing(house(2, 0, 0), 3, 1, 0);
        due("below 0, strong ones only", low.exchanged(7), 0);
        due("below 0 by 10", low.exchanged(10), 1);
        Counterpointery feigned = sing(house(1, 7, 8), 14, 15);
        feigned.feign(true);
        due("nothing is feigned", feigned.exchanged(7), 0);
        Counterpointery one = sing(house(1, 7), 14);
        dueThrow("one note is not whole", STATE, () -> one.exchanged(7));
    }

    private static void canon() {
        Counterpointery x = sing(house(1, 7, 7, 7, 7, 7), 7, 9, 11, 14);
        int[][] wrongs = {{0, 0}, {13, 0}, {1, 8}, {1, -8}, {-1, 0}, {Integer.MIN_VALUE, 0}, {1, Integer.MAX_VALUE}};
        for (int[] pair : wrongs) {
            dueThrow("canon " + pair[0] + " " + pair[1], ILLEGAL, () -> x.canon(pair[0], pair[1]));
        }
        for (int distance = 4; distance <= 12; distance++) {
            int far = distance;
            dueThrow("canon at " + far, STATE, () -> x.canon(far, 0));
        }
        // One note later: 9 over 7, 11 over 9, 14 over 11.
        due("thirds and a fourth", x.canon(1, 0), 1);
        // Two notes later: 11 over 7 and 14 over 9.
        due("a fifth and a sixth", x.canon(2, 0), 0);
        due("three notes later, an octave", x.canon(3, 7), 0);
        due("three notes later, a second", x.canon(3, 6), 1);
        due("below 0 too", sing(house(1, 7, 7), 0, 2).canon(1, -7), 0);
        // 7 8 9 10: octaves, one note later and one step higher.
        sing(x, 7, 8, 9, 10);
        due("parallels", x.canon(1, 1), 2);
        sing(x, 7, 8, 8, 9);
        due("parallels need both moves", x.canon(1, 1), 1);
        sing(x, 7, 7, 7, 7);
        due("none moves", x.canon(1, 0), 0);
        Counterpointery feigned = sing(house(1, 7, 8), 14, 15);
        feigned.feign(true);
        due("nothing is feigned", feigned.canon(1, 1), 0);
        Counterpointery longer = house(1, 0, 0, 0, 0, 0, 0, 0, 0, 0, 0, 0, 0, 0, 0);
        sing(longer, 7, 0, 0, 0, 0, 0, 0, 0, 0, 0, 0, 0, 8);
        due("twelve notes later", longer.canon(12, 1), 0);
        due("twelve notes later, a second", longer.canon(12, 0), 1);
    }

    private static void canons() {
        Counterpointery x = house(1, 7, 7, 7);
        dueThrow("canons of none", STATE, x::canons);
        dueThrow("canonAt of none", STATE, () -> x.canonAt(-1));
        x.other(14);
        dueThrow("canons of one note", STATE, x::canons);
        dueThrow("canonAt of one note", STATE, () -> x.canonAt(0));
        x.other(14);
        // C against C so many steps off: octave, sixth, fifth, third, unison, third, fifth, sixth, octave.
        due("canons of a repeated note", x.canons(), 9);
        int[] due = {143, 145, 146, 148, 150, 152, 154, 155, 157};
        for (int i = 0; i < due.length; i++) {
            due("canonAt " + i, x.canonAt(i), due[i]);
        }
        for (int index : new int[] {-1, 9, Integer.MIN_VALUE, Integer.MAX_VALUE}) {
            dueThrow("canonAt " + index, INDEX, () -> x.canonAt(index));
        }
        x.other(14);
        due("two distances", x.canons(), 18);
        due("the second distance", x.canonAt(9), 243);
        Counterpointery longest = house(1, 7, 7, 7, 7, 7, 7, 7, 7, 7, 7, 7, 7, 7, 7);
        sing(longest, 14, 14, 14, 14, 14, 14, 14, 14, 14, 14, 14, 14, 14, 14);
        due("twelve distances at most", longest.canons(), 108);
        due("the last of them", longest.canonAt(107), 1257);
    }

    // ---- figures

    private static void figures() {
        Counterpointery x = house(2, 7, 8, 9);
        dueThrow("stepShare of none", ARITHMETIC, x::stepShare);
        dueThrow("meanPitch of none", ARITHMETIC, x::meanPitch);
        x.other(14);
        dueThrow("stepShare of one note", ARITHMETIC, x::stepShare);
        due("meanPitch of one note", x.meanPitch(), 24.0);
        x.other(13);
        x.other(13);
        x.other(15);
        due("stepShare", x.stepShare(), 1f / 3f);
        due("meanPitch", x.meanPitch(), 96.0 / 4.0);
        x.other(16);
        due("stepShare of five", x.stepShare(), 0.5f);
        due("meanPitch of five", x.meanPitch(), 124.0 / 5.0);
        x.feign(true);
        due("meanPitch, feigned", x.meanPitch(), 125.0 / 5.0);
    }

    private static void isConsistent() {
        Counterpointery x = new Counterpointery();
        for (int size = 0; size < 6; size++) {
            for (int width = 1; width <= 10; width += 3) {
                x.range(9, 8 + width);
                due("isConsistent", x.isConsistent(), true);
                String before = line(x);
                x.feign(width > 4);
                due("isConsistent, feigning", x.isConsistent(), true);
                due("it changes no line", line(x), before);
            }
            x.given(8 + size % 3);
            x.other(12);
        }
    }

    public static void main(String[] args) {
        newObject();
        given();
        other();
        change();
        clear();
        ratio();
        lower();
        feign();
        notes();
        readNotes();
        interval();
        setLaw();
        style();
        lawsOfPlace();
        lawOfEnd();
        lawsOfDissonance();
        lawsOfParallels();
        lawsOfMoves();
        lawsFeigned();
        faults();
        isGood();
        mend();
        range();
        searchRefusals();
        find();
        goodLines();
        bars();
        exchanged();
        canon();
        canons();
        figures();
        isConsistent();
        end("all promises hold");
    }
}
