import java.math.BigInteger;
import java.util.function.Supplier;

/** The boundary cases of the promises 22 to 26: the search. */
final class SearchBoundaries extends Checks {
    private static final int[] LONGEST = {1, 2, 3, 4, 5, 6, 7, 8, 9, 10, 11, 12, 13, 14};
    private static final int FIRST_SEARCH = 23;
    private static final int LAST_SEARCH = 26;

    private SearchBoundaries() {
    }

    static void tell(Sentences document) {
        range(document);
        for (int promise = FIRST_SEARCH; promise <= LAST_SEARCH; promise++) {
            refusals(document, promise);
        }
        find(document);
        goodLines(document);
        bars(document);
        barAt(document);
    }

    // ---- promise 22

    private static void range(Sentences document) {
        document.test(22, "7 and 16 at first", () -> {
            Counterpointery x = houseOf("", 1, 7, 7);
            due("ten notes", x.goodLines(), 100L);
            due("the lowest", lowest(x), 7);
            due("the greatest", greatest(x), 16);
        });
        document.test(22, "- low: the lowest note", () -> {
            for (int low : row(0, 1, 6, 18, 27)) {
                Counterpointery x = houseOf("", 1, 7, 7);
                x.range(low, Math.min(27, low + 9));
                due("the lowest", lowest(x), low);
            }
        });
        document.test(22, "- high: the greatest one, at most 9 higher", () -> {
            for (int high = 5; high <= 14; high++) {
                Counterpointery x = houseOf("", 1, 7, 7);
                x.range(5, high);
                due("the greatest", greatest(x), high);
                due("all lines", x.goodLines(), (long) (high - 4) * (high - 4));
            }
        });
        document.test(22, "Returns how many notes there are in it", () -> {
            for (int more = 0; more <= 9; more++) {
                due("notes", new Counterpointery().range(3, 3 + more), 1 + more);
                due("notes at the top", new Counterpointery().range(27 - more, 27), 1 + more);
            }
        });
        document.test(22, "Throws IllegalArgumentException if there is no such note", () -> {
            for (int note : NO_NOTES) {
                dueThrow("from " + note, ILLEGAL, () -> new Counterpointery().range(note, 20));
                dueThrow("to " + note, ILLEGAL, () -> new Counterpointery().range(20, note));
            }
            dueThrow("from -1", ILLEGAL, () -> new Counterpointery().range(-1, 0));
            dueThrow("to 28", ILLEGAL, () -> new Counterpointery().range(27, 28));
        });
        document.test(22, "the greatest one is the lower one", () -> {
            dueThrow("by one", ILLEGAL, () -> new Counterpointery().range(8, 7));
            dueThrow("by all", ILLEGAL, () -> new Counterpointery().range(27, 0));
            due("the same", new Counterpointery().range(8, 8), 1);
        });
        document.test(22, "or it is more than 9 higher", () -> {
            dueThrow("10 higher", ILLEGAL, () -> new Counterpointery().range(7, 17));
            dueThrow("11 higher", ILLEGAL, () -> new Counterpointery().range(7, 18));
            dueThrow("27 higher", ILLEGAL, () -> new Counterpointery().range(0, 27));
            dueThrow("10 higher, at the top", ILLEGAL, () -> new Counterpointery().range(17, 27));
            due("9 higher, at the top", new Counterpointery().range(18, 27), 10);
        });
    }

    private static int lowest(Counterpointery x) {
        x.find();
        return x.noteAt(0);
    }

    /** The greatest note of the range: the only one on the right side, where it stands above all others. */
    private static int greatest(Counterpointery x) {
        int greatest = -1;
        for (int note = 0; note <= 27; note++) {
            x.clear(true);
            x.given(note);
            x.given(note);
            x.setLaw('x', 10);
            greatest = x.goodLines() > 0 ? note : greatest;
            x.setLaw('x', 0);
        }
        return greatest;
    }

    // ---- what all searches refuse

    private static Object search(Counterpointery x, int promise) {
        switch (promise) {
            case 23: return x.find();
            case 24: return x.goodLines();
            case 25: return x.bars();
            default: return x.barAt(0);
        }
    }

    private static void refusals(Sentences document, int promise) {
        document.test(promise, "Throws IllegalStateException if the given line has fewer than 2 notes", () -> {
            for (int ratio : row(1, 2, 4)) {
                Counterpointery x = houseOf("", ratio);
                dueThrow("promise " + promise + " of none", STATE, () -> search(x, promise));
                x.given(7);
                dueThrow("promise " + promise + " of one", STATE, () -> search(x, promise));
            }
            Counterpointery cleared = houseOf("", 1, 7, 8);
            cleared.clear(true);
            dueThrow("promise " + promise + " of none again", STATE, () -> search(cleared, promise));
            due("a line of two", houseOf("", 1, 7, 8).find(), 0);
        });
        document.test(promise, "Throws UnsupportedOperationException if the ratio is 4", () -> {
            Counterpointery x = house(4, 7, 8);
            dueThrow("promise " + promise + " with ratio 4", UNSUPPORTED, () -> search(x, promise));
            for (int ratio : row(1, 2)) {
                x.ratio(ratio);
                x.style(2);
                due("a line is good with ratio " + ratio, x.goodLines() > 0, true);
            }
        });
    }

    // ---- promise 23

    private static void find(Sentences document) {
        document.test(23, "Finds the best line, which is the other line then", () -> {
            Counterpointery x = sing(house(1, 8, 10, 9, 8), 3, 3);
            x.find();
            due("line", line(x), "8 15 14 15");
            Counterpointery two = houseOf("", 1, 8, 7);
            two.find();
            due("the shortest", line(two), "7 7");
            Counterpointery longest = houseOf("s", 2, LONGEST);
            longest.find();
            due("the longest", longest.notes(), 27);
            due("it is the other line", longest.isGood(), true);
        });
        document.test(23, "Finds the best line, which is the other line then", SearchBoundaries::longestEnd);
        document.test(23, "Finds the best line", SearchBoundaries::triedLines);
        document.test(23, "Finds the best line", SearchBoundaries::searchesBehindChanges);
        document.test(23, "Returns its cost", () -> {
            Counterpointery x = house(1, 8, 10, 9, 8);
            due("no cost", x.find(), 0);
            x.range(12, 12);
            allWeights(x, 9);
            int cost = x.find();
            due("the cost", cost, x.cost());
            due("that is told by laws", cost, 9 * x.faults());
        });
        document.test(23, "Throws NoSuchElementException if no line is good", () -> {
            Counterpointery x = sing(house(1, 12, 11, 12), 5);
            x.range(12, 12);
            dueThrow("one line with a forbidden fault", NONE_SUCH, x::find);
            due("the line stays", line(x), "5");
            x.setLaw('d', 9);
            x.setLaw('e', 9);
            due("the one line with bad faults", x.find(), 9 + 9 + 1 + 1);
            Counterpointery weak = houseOf("wsu", 2, 7, 7);
            weak.range(7, 8);
            dueThrow("none, with ratio 2", NONE_SUCH, weak::find);
        });
    }

    private static void longestEnd() {
        Counterpointery x = houseOf("e", 2, LONGEST);
        x.range(18, 27);
        x.find();
        due("the last but one", x.noteAt(25), 22);
        due("the last", x.noteAt(26), 21);
        due("the lines with such an end", x.goodLines(), BigInteger.TEN.pow(25).longValue());
    }

    /** All lines of small ranges, tried one by one, tell the same as the search. */
    private static void triedLines() {
        for (int setting = 0; setting < 16; setting++) {
            int bits = setting;
            dueTried(() -> setHouse(bits, 1, 8, 9), 2, 10);
            dueTried(() -> setHouse(bits, 2, 8, 7), 3, 10);
            dueTried(() -> setHouse(bits, 1, 8, 10, 9, 8), 4, 5);
            dueTried(() -> setHouse(bits, 2, 8, 10, 9), 5, 6);
        }
    }

    private static Counterpointery setHouse(int setting, int ratio, int... given) {
        Counterpointery x = house(ratio, given);
        x.feign(setting % 2 == 1);
        x.lower(setting / 2 % 2 == 1);
        x.style(setting / 4 % 3);
        // With these forbidden, too, hardly any line would be good.
        x.setLaw('e', 8);
        x.setLaw('x', 7);
        x.setLaw('b', 9);
        if (setting >= 12) {
            for (int i = 0; i < LAWS.length(); i++) {
                x.setLaw(LAWS.charAt(i), i * 5 % 11);
            }
        }
        return x;
    }

    private static void dueTried(Supplier<Counterpointery> maker, int notes, int width) {
        for (int low = 5; low <= 15; low += 5) {
            Counterpointery x = maker.get();
            x.range(low, low + width - 1);
            due("the search from " + low + " of " + weightsOf(x), searched(x), tried(maker, notes, low, width));
        }
    }

    /** How many lines are good, and the best one. */
    private static String searched(Counterpointery x) {
        long good = x.goodLines();
        try {
            int cost = x.find();
            return good + " lines, for " + cost + " " + line(x);
        } catch (java.util.NoSuchElementException e) {
            return good + " lines";
        }
    }

    /** The same by trying all lines, on several houses, because one is for 512 calls only. */
    private static String tried(Supplier<Counterpointery> maker, int notes, int low, int width) {
        long good = 0;
        int least = Integer.MAX_VALUE;
        String best = "";
        Counterpointery x = null;
        int total = BigInteger.valueOf(width).pow(notes).intValue();
        for (int number = 0; number < total; number++) {
            if (number % 40 == 0) {
                x = sing(maker.get(), new int[notes]);
            }
            int rest = number;
            for (int i = notes - 1; i >= 0; i--) {
                x.change(i, low + rest % width);
                rest /= width;
            }
            if (x.isGood()) {
                good++;
                if (x.cost() < least) {
                    least = x.cost();
                    best = ", for " + least + " " + line(x);
                }
            }
        }
        return good + " lines" + best;
    }

    /** A search behind two changes tells the same as if none had been ahead of them. */
    private static void searchesBehindChanges() {
        for (int first = 0; first < 9; first++) {
            for (int second = 0; second < 9; second++) {
                Counterpointery searched = house(1, 8, 10, 9, 8);
                Counterpointery fresh = house(1, 8, 10, 9, 8);
                searched(searched);
                searched.bars();
                for (Counterpointery x : new Counterpointery[] {searched, fresh}) {
                    change(x, first);
                    change(x, second);
                }
                String what = "behind the changes " + first + " and " + second;
                due("the bars " + what, barsOf(searched), barsOf(fresh));
                due("the search " + what, searched(searched), searched(fresh));
            }
        }
    }

    private static void change(Counterpointery x, int which) {
        switch (which) {
            case 0: x.given(9); break;
            case 1: x.clear(true); x.given(9); x.given(8); break;
            case 2: x.ratio(2); break;
            case 3: x.lower(true); break;
            case 4: x.feign(true); break;
            case 5: x.range(3, 12); break;
            case 6: x.setLaw('s', 10); break;
            case 7: x.setLaw('e', 0); break;
            default: x.style(1); break;
        }
    }

    // ---- promise 24

    private static void goodLines(Sentences document) {
        document.test(24, "Returns how many whole and good lines there are in the range", () -> {
            Counterpointery x = house(1, 8, 10, 9, 8);
            due("some", x.goodLines(), 8L);
            due("the other line stays", x.notes(), 0);
            x.range(10, 13);
            due("none", x.goodLines(), 0L);
            Counterpointery two = houseOf("s", 2, 7, 7);
            two.range(7, 8);
            due("no note again", two.goodLines(), 2L);
        });
        document.test(24, "Returns the number of lines, as longs wrap", () -> {
            for (int width = 1; width <= 10; width++) {
                Counterpointery x = houseOf("", 2, LONGEST);
                x.range(7, 6 + width);
                long due = BigInteger.valueOf(width).pow(27).longValue();
                due(width + " to the 27", x.goodLines(), due);
                x.ratio(1);
                due(width + " to the 14", x.goodLines(), BigInteger.valueOf(width).pow(14).longValue());
            }
            Counterpointery x = houseOf("", 2, LONGEST);
            x.range(7, 14);
            due("wrapped to 0", x.goodLines(), 0L);
            due("though some are found", x.find(), 0);
            due("and nothing bars", x.bars(), 0);
        });
    }

    // ---- promises 25 and 26

    private static void bars(Sentences document) {
        document.test(25, "Returns how many laws bar each line", () -> {
            Counterpointery x = houseOf("ds", 1, 7, 7);
            x.range(9, 10);
            due("two laws", x.bars(), 2);
            x.setLaw('s', 9);
            due("none", x.bars(), 0);
            x.setLaw('s', 10);
            x.range(9, 9);
            due("one law", x.bars(), 1);
        });
        document.test(25, "0 if some line is good", () -> {
            due("with ratio 1", house(1, 8, 10, 9, 8).bars(), 0);
            due("with ratio 2", house(2, 8, 10, 9, 8).bars(), 0);
            due("without laws", houseOf("", 1, 7, 8).bars(), 0);
            Counterpointery one = houseOf("ds", 1, 7, 7);
            one.range(9, 10);
            one.setLaw('d', 0);
            due("of two laws one is left", one.bars(), 0);
        });
    }

    private static void barAt(Sentences document) {
        document.test(26, "Returns a law that bars", () -> {
            Counterpointery x = houseOf("bd", 1, 7, 7);
            x.range(10, 10);
            due("not one that is left out", x.barAt(0), 'd');
            x.setLaw('d', 9);
            due("then the one that remains", x.barAt(0), 'b');
        });
        document.test(26, "- index: the index, from 0", () -> {
            Counterpointery x = houseOf("ds", 1, 7, 7);
            x.range(9, 10);
            due("the first", x.barAt(0), 'd');
            due("the last", x.barAt(1), 's');
        });
        document.test(26, "Returns the law", () -> {
            for (char law : new char[] {'b', 'd', 'x', 's', 'e'}) {
                Counterpointery x = houseOf("" + law, 1, 7, 7);
                x.lower(true);
                x.range(10, 10);
                due("the one that is left", x.barAt(0), law);
            }
        });
        document.test(26, "Throws IndexOutOfBoundsException if there is no such law", () -> {
            Counterpointery x = houseOf("ds", 1, 7, 7);
            for (int index : row(-1, 0, 1)) {
                dueThrow("where none bars, at " + index, INDEX, () -> x.barAt(index));
            }
            x.range(9, 10);
            for (int index : row(-1, 2, 12, Integer.MIN_VALUE, Integer.MAX_VALUE)) {
                dueThrow("where two bar, at " + index, INDEX, () -> x.barAt(index));
            }
        });
    }
}
