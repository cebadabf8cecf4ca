/** The boundary cases of the promises 13 to 21: laws and faults. */
final class FaultBoundaries extends Checks {
    private static final char[] NO_LAWS = {'a', 'c', 'f', 'i', 'o', 'v', 'y', 'z', 'B', 'R', ' ', '0', (char) 0,
        (char) 233, (char) 0x162, (char) 65535};

    private FaultBoundaries() {
    }

    static void tell(Sentences document) {
        setLaw(document);
        weight(document);
        style(document);
        faults(document);
        oneFault(document, 17);
        oneFault(document, 18);
        costAndGood(document);
        mend(document);
    }

    // ---- promises 13 and 14

    private static void setLaw(Sentences document) {
        document.test(13, "Sets the weight of a law", () -> {
            Counterpointery x = sing(houseOf("", 1, 7, 7), 14, 14);
            x.setLaw('s', 3);
            due("cost", x.cost(), 3);
            x.setLaw('s', 4);
            due("another cost", x.cost(), 4);
        });
        document.test(13, "- law: the law", () -> {
            Counterpointery x = houseOf("", 1);
            for (int i = 0; i < LAWS.length(); i++) {
                x.setLaw(LAWS.charAt(i), i % 11);
            }
            for (int i = 0; i < LAWS.length(); i++) {
                due("weight of " + LAWS.charAt(i), x.weight(LAWS.charAt(i)), i % 11);
            }
        });
        document.test(13, "- weight: the weight, 0 to 10", () -> {
            Counterpointery x = new Counterpointery();
            for (int weight = 0; weight <= 10; weight++) {
                x.setLaw('t', weight);
                due("weight", x.weight('t'), weight);
            }
        });
        document.test(13, "Returns the one before", () -> {
            Counterpointery x = new Counterpointery();
            due("of the style", x.setLaw('s', 10), 1);
            due("then", x.setLaw('s', 10), 10);
            due("again", x.setLaw('s', 0), 10);
            due("at last", x.setLaw('s', 5), 0);
        });
        document.test(13, "if there is no such law", () -> {
            for (char law : NO_LAWS) {
                dueThrow("law " + (int) law, ILLEGAL, () -> new Counterpointery().setLaw(law, 5));
            }
        });
        document.test(13, "or the weight is out of range", () -> {
            for (int weight : row(-1, 11, 12, Integer.MIN_VALUE, Integer.MAX_VALUE)) {
                dueThrow("weight " + weight, ILLEGAL, () -> new Counterpointery().setLaw('b', weight));
            }
        });
    }

    private static void weight(Sentences document) {
        document.test(14, "- law: the law", () -> {
            for (char law : LAWS.toCharArray()) {
                Counterpointery x = houseOf("", 1);
                x.setLaw(law, 7);
                due("weights", weightsOf(x), zeroWeights().replace(law + "0", law + "7"));
            }
        });
        document.test(14, "Returns the weight", () -> {
            Counterpointery x = new Counterpointery();
            due("of a style", x.weight('r'), 4);
            x.setLaw('r', 0);
            due("none", x.weight('r'), 0);
            x.setLaw('r', 10);
            due("most", x.weight('r'), 10);
        });
        document.test(14, "Throws IllegalArgumentException if there is no such law", () -> {
            for (char law : NO_LAWS) {
                dueThrow("law " + (int) law, ILLEGAL, () -> new Counterpointery().weight(law));
            }
        });
    }

    private static String zeroWeights() {
        return weightsOf(houseOf("", 1));
    }

    // ---- promise 15

    private static void style(Sentences document) {
        document.test(15, "0 all are 10, but q 5, h 3, u 2, s 1, r 4", () -> {
            dueStyle(0, "b10 e10 d10 w10 p10 q5 h3 x10 u2 s1 t10 r4 ");
        });
        document.test(15, "1 all are 10", () -> {
            dueStyle(1, "b10 e10 d10 w10 p10 q10 h10 x10 u10 s10 t10 r10 ");
        });
        document.test(15, "2 all are 10, but b, h, u, s, r, q 0, and t 3", () -> {
            dueStyle(2, "b0 e10 d10 w10 p10 q0 h0 x10 u0 s0 t3 r0 ");
        });
        document.test(15, "- style: the style, 0 to 2", () -> {
            for (int style = 0; style <= 2; style++) {
                Counterpointery x = new Counterpointery();
                x.style(style);
                due("style " + style + " again", x.style(style), 0);
            }
        });
        document.test(15, "Returns how many weights are others by that", () -> {
            int[][] due = {{0, 5, 7}, {5, 0, 7}, {7, 7, 0}};
            for (int before = 0; before <= 2; before++) {
                for (int after = 0; after <= 2; after++) {
                    Counterpointery x = new Counterpointery();
                    x.style(before);
                    due("from " + before + " to " + after, x.style(after), due[before][after]);
                }
            }
            Counterpointery x = houseOf("", 1);
            due("all", x.style(1), 12);
            x.setLaw('e', 9);
            x.setLaw('q', 5);
            due("two, of which one was of the style", x.style(0), 5);
        });
        document.test(15, "Throws IllegalArgumentException if there is no such style", () -> {
            for (int style : row(-1, 3, 4, Integer.MIN_VALUE, Integer.MAX_VALUE)) {
                dueThrow("style " + style, ILLEGAL, () -> new Counterpointery().style(style));
            }
        });
    }

    private static void dueStyle(int style, String weights) {
        Counterpointery x = houseOf("", 1);
        x.style(style);
        due("style " + style, weightsOf(x), weights);
    }

    // ---- promises 16 to 18

    private static void faults(Sentences document) {
        document.test(16, "of laws with a weight above 0", () -> {
            Counterpointery x = sing(house(1, 7, 8, 7), 14, 15, 15);
            x.style(1);
            due("all laws", told(x), "1p 2e 2d 2s");
            x.setLaw('e', 0);
            x.setLaw('s', 1);
            due("but e", told(x), "1p 2d 2s");
            allWeights(x, 0);
            due("none", x.faults(), 0);
            allWeights(x, 1);
            due("all again", x.faults(), 4);
        });
        document.test(16, "as far as it goes", () -> {
            Counterpointery x = house(1, 7, 8, 7);
            x.style(1);
            due("not at all", x.faults(), 0);
            int[] due = {2, 3, 4};
            for (int i = 0; i < due.length; i++) {
                x.other(10 + i);
                due("faults of " + line(x), x.faults(), due[i]);
            }
        });
        document.test(16, "Returns the number of faults", () -> {
            due("of nothing", new Counterpointery().faults(), 0);
            due("of no other line", house(1, 7, 8).faults(), 0);
            due("of a line without faults", sing(house(1, 7, 8, 7), 14, 13, 14).faults(), 0);
            Counterpointery x = houseOf("s", 4, 7, 7, 7, 7, 7, 7, 7, 7, 7, 7, 7, 7, 7, 7);
            for (int i = 0; i < 53; i++) {
                x.other(7);
            }
            due("of the longest line", x.faults(), 52);
        });
        document.test(17, "faults are ordered by these, at one note by the order of laws", () -> {
            Counterpointery x = sing(house(1, 9, 8, 7), 3, 8, 8);
            x.style(1);
            due("faults", told(x), "0b 0d 0x 1u 2e 2d 2s 2r");
        });
    }

    /** What faultAt and faultOf have in common: "0b 1p 1u 2e 2p". */
    private static void oneFault(Sentences document, int promise) {
        Counterpointery x = sing(house(1, 7, 8, 9), 10, 8, 9);
        x.style(1);
        Object[][] due = {{0, 0, 1, 2, 2}, {'b', 'd', 'u', 'e', 'p'}};
        document.test(promise, "- index: the index of the fault, from 0", () -> {
            due("the first", read(x, promise, 0), due[promise - 17][0]);
            due("the last", read(x, promise, 4), due[promise - 17][4]);
        });
        document.test(promise, promise == 17 ? "Returns the index of the note" : "Returns the law", () -> {
            for (int index = 0; index < 5; index++) {
                due("promise " + promise + " at " + index, read(x, promise, index), due[promise - 17][index]);
            }
        });
        document.test(promise, "Throws IndexOutOfBoundsException if there is no such fault", () -> {
            for (int index : row(-1, 5, 6, 1000, Integer.MIN_VALUE, Integer.MAX_VALUE)) {
                dueThrow("promise " + promise + " at " + index, INDEX, () -> read(x, promise, index));
            }
            x.setLaw('d', 0);
            dueThrow("where one law has no weight", INDEX, () -> read(x, promise, 4));
            x.setLaw('d', 10);
            dueThrow("of no line", INDEX, () -> read(new Counterpointery(), promise, 0));
            dueThrow("of no faults", INDEX, () -> read(sing(house(1, 7, 8, 7), 14, 13, 14), promise, 0));
        });
    }

    private static Object read(Counterpointery x, int promise, int index) {
        if (promise == 17) {
            return x.faultAt(index);
        }
        return x.faultOf(index);
    }

    // ---- promises 19 and 20

    private static void costAndGood(Sentences document) {
        document.test(19, "as far as it goes", () -> {
            Counterpointery x = house(1, 7, 8, 7);
            int[] due = {20, 30, 40};
            for (int i = 0; i < due.length; i++) {
                x.other(10 + i);
                due("cost of " + line(x), x.cost(), due[i]);
            }
        });
        document.test(19, "Returns the cost", () -> {
            due("of nothing", new Counterpointery().cost(), 0);
            due("of no other line", house(1, 7, 8).cost(), 0);
            due("of one given note", sing(house(1, 7), 14).cost(), 10);
            due("of a line without faults", sing(house(1, 7, 8, 7), 14, 13, 14).cost(), 0);
        });
        document.test(20, "Returns whether the other line is whole and good", () -> {
            Counterpointery x = sing(house(1, 7, 8, 7), 14, 13);
            due("not whole", x.isGood(), false);
            x.other(14);
            due("whole and good", x.isGood(), true);
            x.change(1, 15);
            due("not good", x.isGood(), false);
            due("one given note", sing(houseOf("", 1, 7), 14).isGood(), false);
            due("no line", houseOf("", 1).isGood(), false);
            due("no other line", houseOf("", 1, 7, 8).isGood(), false);
        });
        document.test(20, "Returns true if it is", () -> {
            Counterpointery x = sing(houseOf("s", 1, 7, 8), 14, 14);
            due("a forbidden fault", x.isGood(), false);
            x.setLaw('s', 9);
            due("a bad fault", x.isGood(), true);
            x.setLaw('s', 0);
            due("no fault", x.isGood(), true);
        });
    }

    // ---- promise 21

    private static void mend(Sentences document) {
        document.test(21, "Changes the one note by which the cost becomes least", () -> {
            // The first way takes 1 away, the last one 3.
            Counterpointery x = sing(houseOf("", 1, 7, 7, 7), 6, 8, 8);
            x.setLaw('x', 1);
            x.setLaw('s', 3);
            due("the index", x.mend(), 1);
            due("the line", line(x), "6 7 8");
            due("the next index", x.mend(), 0);
            due("the next line", line(x), "8 7 8");
            due("nothing is left", x.cost(), 0);
        });
        document.test(21, "if it becomes less", () -> {
            Counterpointery x = sing(houseOf("s", 1, 7, 7, 7), 7, 8, 7);
            dueThrow("the cost can't become less", NONE_SUCH, x::mend);
            due("the line", line(x), "7 8 7");
        });
        document.test(21, "to any note from 0 to 27", () -> {
            Counterpointery x = sing(houseOf("x", 1, 27, 0), 26, 0);
            x.range(7, 8);
            x.mend();
            due("the greatest one", line(x), "27 0");
            Counterpointery y = sing(houseOf("x", 1, 0, 27), 1, 27);
            y.lower(true);
            y.range(7, 8);
            y.mend();
            due("the lowest one", line(y), "0 27");
            dueThrow("none above 27", NONE_SUCH, () -> sing(houseOf("xs", 1, 27, 27), 27, 27).mend());
            Counterpointery below = sing(houseOf("xs", 1, 0, 0), 0, 0);
            below.lower(true);
            dueThrow("none below 0", NONE_SUCH, below::mend);
        });
        document.test(21, "of several ways the one at the least index, then with the lowest note", () -> {
            Counterpointery x = sing(houseOf("s", 1, 7, 7, 7), 0, 0, 9);
            due("the least index", x.mend(), 0);
            due("the lowest note", line(x), "1 0 9");
            Counterpointery y = sing(houseOf("x", 1, 7, 8, 9), 9, 3, 3);
            due("the least index of two", y.mend(), 1);
            due("the lowest note on its side", line(y), "9 8 3");
        });
        document.test(21, "Changes the one note by which the cost becomes least", () -> {
            Counterpointery leap = sing(houseOf("r", 1, 7, 7, 7), 14, 18, 19);
            due("two notes ahead of the fault", leap.mend(), 0);
            due("the leap is no great one", line(leap), "15 18 19");
            Counterpointery strong = sing(houseOf("q", 4, 7, 8), 14, 14, 14, 14, 15);
            due("four notes ahead of the fault", strong.mend(), 0);
            due("no octaves", line(strong), "1 14 14 14 15");
            // Both faults are gone if the last note is no step above: the leap down to a feigned one is of 11.
            Counterpointery feigned = sing(houseOf("tx", 1, 7, 7, 20), 22, 15, 16);
            feigned.feign(true);
            due("the note behind the fault", feigned.mend(), 2);
            due("nothing is feigned", line(feigned), "22 15 20");
        });
        document.test(21, "Returns the index of the note", () -> {
            for (int index = 0; index < 5; index++) {
                Counterpointery x = sing(houseOf("x", 2, 7, 7, 7), 8, 8, 8, 8, 8);
                x.change(index, 6);
                due("the index", x.mend(), index);
                due("the note", x.noteAt(index), 7);
            }
        });
        document.test(21, "Throws IllegalStateException if the other line is not whole", () -> {
            dueThrow("no line", STATE, () -> new Counterpointery().mend());
            dueThrow("no other line", STATE, () -> house(1, 7, 8).mend());
            dueThrow("one note less", STATE, () -> sing(house(1, 7, 8), 8).mend());
            dueThrow("one given note", STATE, () -> sing(house(1, 7), 8).mend());
            dueThrow("one note less, ratio 4", STATE, () -> sing(house(4, 7, 8), 8, 8, 8, 8).mend());
        });
        document.test(21, "Throws NoSuchElementException if there is no way by which it becomes less", () -> {
            dueThrow("no faults", NONE_SUCH, () -> sing(house(1, 7, 8, 7), 14, 13, 14).mend());
            Counterpointery x = sing(houseOf("e", 1, 7, 7), 14, 14);
            due("a cost", x.cost(), 10);
            dueThrow("whatever the notes", NONE_SUCH, x::mend);
            Counterpointery both = sing(houseOf("t", 1, 7, 7), 0, 27);
            both.setLaw('t', 0);
            dueThrow("no weight", NONE_SUCH, both::mend);
        });
    }
}
