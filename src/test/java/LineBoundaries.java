/** The boundary cases of the promises 1 to 12: a new object, and the lines. */
final class LineBoundaries extends Checks {
    private static final int[] NO_INDEXES = {-1, 3, 4, 53, Integer.MIN_VALUE, Integer.MAX_VALUE};

    private LineBoundaries() {
    }

    static void tell(Sentences document) {
        newObject(document);
        given(document);
        other(document);
        change(document);
        clear(document);
        ratio(document);
        switches(document);
        reading(document);
    }

    // ---- promise 1

    private static void newObject(Sentences document) {
        document.test(1, "Creates a house without lines", () -> {
            Counterpointery x = new Counterpointery();
            due("notes", x.notes(), 0);
            dueThrow("a first note", INDEX, () -> x.noteAt(0));
            dueThrow("a note against none", STATE, () -> x.other(7));
            due("the first given", x.given(7), 1);
        });
        document.test(1, "with the ratio 1", () -> {
            due("ratio", new Counterpointery().ratio(2), 1);
            Counterpointery x = new Counterpointery();
            x.given(7);
            x.given(8);
            x.other(14);
            x.other(13);
            dueThrow("a third note", STATE, () -> x.other(14));
        });
        document.test(1, "the other line higher, no notes feigned, and the style 0", () -> {
            due("lower", new Counterpointery().lower(true), false);
            due("feign", new Counterpointery().feign(true), false);
            due("style", new Counterpointery().style(0), 0);
            due("weights", weightsOf(new Counterpointery()), "b10 e10 d10 w10 p10 q5 h3 x10 u2 s1 t10 r4 ");
        });
    }

    // ---- promise 2

    private static void given(Sentences document) {
        document.test(2, "the other line is empty then", () -> {
            Counterpointery x = sing(house(2, 7, 8), 14, 13, 14);
            x.given(9);
            due("notes", x.notes(), 0);
            due("a first note against it", x.other(5), 1);
        });
        document.test(2, "- note: the note", () -> {
            due("the lowest", new Counterpointery().given(0), 1);
            due("the greatest", new Counterpointery().given(27), 1);
        });
        document.test(2, "Returns how many notes it has", () -> {
            Counterpointery x = new Counterpointery();
            for (int i = 1; i <= 14; i++) {
                due("given", x.given(7), i);
            }
            x.clear(true);
            due("the first given again", x.given(7), 1);
        });
        document.test(2, "Throws IllegalArgumentException if there is no such note", () -> {
            for (int note : NO_NOTES) {
                dueThrow("given " + note, ILLEGAL, () -> new Counterpointery().given(note));
            }
        });
        document.test(2, "Throws IllegalStateException if it has 14", () -> {
            Counterpointery x = house(1, 1, 2, 3, 4, 5, 6, 7, 8, 9, 10, 11, 12, 13);
            due("the 14th", x.given(14), 14);
            dueThrow("the 15th", STATE, () -> x.given(15));
            dueThrow("the 16th", STATE, () -> x.given(15));
        });
    }

    // ---- promise 3

    private static void other(Sentences document) {
        document.test(3, "Puts a note behind the other line", () -> {
            due("line", line(sing(house(1, 7, 8, 9), 3, 1, 2)), "3 1 2");
        });
        document.test(3, "- note: the note", () -> {
            due("the lowest", house(1, 7).other(0), 1);
            due("the greatest", house(1, 7).other(27), 1);
        });
        document.test(3, "Returns how many notes it has", () -> {
            Counterpointery x = house(4, 7, 8);
            for (int i = 1; i <= 5; i++) {
                due("other", x.other(7), i);
            }
        });
        document.test(3, "Throws IllegalArgumentException if there is no such note", () -> {
            for (int note : NO_NOTES) {
                dueThrow("other " + note, ILLEGAL, () -> house(1, 7).other(note));
            }
        });
        document.test(3, "Throws IllegalStateException if it has all notes that it can have", () -> {
            dueThrow("against none", STATE, () -> new Counterpointery().other(7));
            dueThrow("behind one", STATE, () -> sing(house(4, 7), 7).other(7));
            dueThrow("behind two", STATE, () -> sing(house(1, 7, 8), 7, 8).other(7));
            dueThrow("behind three", STATE, () -> sing(house(2, 7, 8), 7, 8, 9).other(7));
            dueThrow("behind five", STATE, () -> sing(house(4, 7, 8), 7, 8, 9, 8, 7).other(7));
            due("the fifth", sing(house(4, 7, 8), 7, 8, 9, 8).other(7), 5);
        });
    }

    // ---- promise 4

    private static void change(Sentences document) {
        document.test(4, "Changes a note of the other line", () -> {
            Counterpointery x = sing(house(1, 7, 8), 14, 15);
            x.change(1, 13);
            due("line", line(x), "14 13");
            due("the given one stays", x.interval(1), 'i');
        });
        document.test(4, "- index: the index, from 0", () -> {
            Counterpointery x = sing(house(1, 7, 8, 9), 14, 15, 16);
            due("the first", x.change(0, 1), 14);
            due("the last", x.change(2, 3), 16);
            due("line", line(x), "1 15 3");
        });
        document.test(4, "- note: the note", () -> {
            Counterpointery x = sing(house(1, 7, 8, 9), 14, 15, 16);
            x.change(1, 0);
            due("to the lowest", line(x), "14 0 16");
            x.change(1, 27);
            due("to the greatest", line(x), "14 27 16");
        });
        document.test(4, "Returns the note before", () -> {
            Counterpointery x = sing(house(1, 7), 14);
            due("before", x.change(0, 14), 14);
            due("the same one", x.change(0, 3), 14);
            due("the new one", x.change(0, 14), 3);
        });
        document.test(4, "Throws IndexOutOfBoundsException if it has no such note", () -> {
            Counterpointery x = sing(house(1, 7, 8, 9, 10), 14, 15, 16);
            for (int index : NO_INDEXES) {
                dueThrow("change at " + index, INDEX, () -> x.change(index, 7));
            }
            x.clear(false);
            dueThrow("change of none", INDEX, () -> x.change(0, 7));
        });
        document.test(4, "Throws IllegalArgumentException if there is no such note", () -> {
            Counterpointery x = sing(house(1, 7), 14);
            for (int note : NO_NOTES) {
                dueThrow("change to " + note, ILLEGAL, () -> x.change(0, note));
            }
        });
    }

    // ---- promise 5

    private static void clear(Sentences document) {
        document.test(5, "Makes the other line empty, or both lines", () -> {
            Counterpointery x = sing(house(1, 7, 8), 14, 15);
            x.clear(false);
            due("notes", x.notes(), 0);
            due("the given line goes on", x.given(9), 3);
            x.clear(false);
            due("and on", x.given(9), 4);
        });
        document.test(5, "- given: true for both lines", () -> {
            Counterpointery x = sing(house(2, 7, 8), 14, 15);
            x.lower(true);
            x.feign(true);
            x.setLaw('s', 6);
            x.clear(true);
            due("notes", x.notes(), 0);
            dueThrow("nothing is given", STATE, () -> x.other(7));
            due("the first given", x.given(9), 1);
            due("the rest stays: ratio", x.ratio(1), 2);
            due("the rest stays: lower", x.lower(true), true);
            due("the rest stays: feign", x.feign(true), true);
            due("the rest stays: weights", x.weight('s'), 6);
        });
        document.test(5, "Returns how many notes the other line had", () -> {
            for (boolean given : new boolean[] {false, true}) {
                due("of nothing", new Counterpointery().clear(given), 0);
                due("of no other line", house(1, 7, 8).clear(given), 0);
                due("of two", sing(house(1, 7, 8, 9), 14, 15).clear(given), 2);
                due("of all", sing(house(1, 7, 8, 9), 14, 15, 16).clear(given), 3);
            }
        });
    }

    // ---- promise 6

    private static void ratio(Sentences document) {
        document.test(6, "the other line is empty then, also if the ratio was that", () -> {
            for (int before : row(1, 2, 4)) {
                for (int after : row(1, 2, 4)) {
                    Counterpointery x = sing(house(before, 7, 8), 14, 15);
                    x.ratio(after);
                    due("notes from " + before + " to " + after, x.notes(), 0);
                    due("the given line goes on", x.given(9), 3);
                }
            }
        });
        document.test(6, "- ratio: 1, 2 or 4", () -> {
            for (int ratio : row(1, 2, 4)) {
                Counterpointery x = house(ratio, 7, 8);
                for (int i = 0; i <= ratio; i++) {
                    x.other(7);
                }
                dueThrow("one more with ratio " + ratio, STATE, () -> x.other(7));
            }
        });
        document.test(6, "Returns the one before", () -> {
            Counterpointery x = new Counterpointery();
            due("at first", x.ratio(4), 1);
            due("then", x.ratio(4), 4);
            due("again", x.ratio(2), 4);
            due("at last", x.ratio(1), 2);
        });
        document.test(6, "Throws IllegalArgumentException if there is no such ratio", () -> {
            for (int ratio : row(-4, -2, -1, 0, 3, 5, 6, 8, 16, Integer.MIN_VALUE, Integer.MAX_VALUE)) {
                dueThrow("ratio " + ratio, ILLEGAL, () -> new Counterpointery().ratio(ratio));
            }
        });
    }

    // ---- promises 7 and 8

    private static void switches(Sentences document) {
        document.test(7, "Tells whether the other line is to be lower", () -> {
            Counterpointery x = sing(houseOf("x", 1, 7, 7), 8, 6);
            x.lower(true);
            due("lower", told(x), "0x");
            x.lower(false);
            due("higher", told(x), "1x");
            due("the line stays", line(x), "8 6");
        });
        document.test(7, "- isLower: true if it is", () -> {
            Counterpointery x = houseOf("x", 1, 7, 7);
            due("lines on or above", x.goodLines(), 100L);
            x.lower(true);
            due("lines on or below", x.goodLines(), 1L);
        });
        document.test(7, "Returns true if it was", () -> {
            Counterpointery x = new Counterpointery();
            due("at first", x.lower(false), false);
            due("then", x.lower(true), false);
            due("again", x.lower(true), true);
            due("at last", x.lower(false), true);
        });
        document.test(8, "Tells whether notes are feigned", () -> {
            Counterpointery x = sing(house(1, 7, 8), 14, 15);
            x.feign(true);
            due("feigned", x.pitch(0), 25);
            x.feign(false);
            due("not feigned", x.pitch(0), 24);
            due("the line stays", line(x), "14 15");
        });
        document.test(8, "- feigns: true if they are", () -> {
            Counterpointery x = houseOf("b", 1, 8, 9);
            x.range(15, 16);
            due("octaves ahead of anything", x.goodLines(), 2L);
            x.feign(true);
            due("but of a step up", x.goodLines(), 1L);
        });
        document.test(8, "Returns true if they were", () -> {
            Counterpointery x = new Counterpointery();
            due("at first", x.feign(false), false);
            due("then", x.feign(true), false);
            due("again", x.feign(true), true);
            due("at last", x.feign(false), true);
        });
    }

    // ---- promises 9 to 12

    private static void reading(Sentences document) {
        document.test(9, "Returns how many notes the other line has", () -> {
            due("of nothing", new Counterpointery().notes(), 0);
            due("of no other line", house(1, 7, 8).notes(), 0);
            due("of one", sing(house(1, 7, 8), 14).notes(), 1);
        });
        document.test(9, "Returns the number of notes", () -> {
            int[] given = {7, 7, 7, 7, 7, 7, 7, 7, 7, 7, 7, 7, 7, 7};
            Counterpointery x = house(4, given);
            for (int i = 1; i <= 53; i++) {
                x.other(14);
                due("notes", x.notes(), i);
            }
        });
        for (int promise = 10; promise <= 12; promise++) {
            indexes(document, promise);
        }
        document.test(10, "Returns a note of the other line", () -> {
            due("not of the given one", sing(house(1, 7, 8), 14, 13).noteAt(1), 13);
        });
        document.test(10, "Returns the note", () -> {
            Counterpointery x = sing(house(1, 7, 8), 0, 1);
            x.feign(true);
            due("also a feigned one", x.noteAt(0), 0);
            due("the greatest", sing(house(1, 7), 27).noteAt(0), 27);
        });
        document.test(11, "a feigned one counted", () -> {
            Counterpointery x = sing(house(2, 7, 8), 14, 14, 15);
            x.feign(true);
            due("the first", x.pitch(0), 24);
            due("the feigned one", x.pitch(1), 25);
            due("the last", x.pitch(2), 26);
        });
        document.test(11, "Returns the pitch in semitones", () -> {
            due("the lowest", sing(house(1, 7), 0).pitch(0), 0);
            due("the greatest", sing(house(1, 7), 27).pitch(0), 47);
        });
        document.test(12, "Returns the interval of a note of the other line", () -> {
            Counterpointery x = sing(house(2, 7, 8), 11, 12, 12);
            due("a strong one", x.interval(0), 'f');
            due("a weak one is with the same given one", x.interval(1), 'i');
            due("the last one is with the last", x.interval(2), 'f');
        });
        document.test(12, "Returns 'u' 0 and 0, 'f' 4 and 7, 'i' imperfect, 'd' dissonant", () -> {
            String kinds = "udidfid";
            for (int steps = 0; steps < 28; steps++) {
                char due = kinds.charAt(steps % 7);
                due(steps + " steps above a C", sing(house(1, 0), steps).interval(0), due);
                due(steps + " steps below a B", sing(house(1, 27), 27 - steps).interval(0), due);
            }
            due("a diminished fifth", sing(house(1, 6), 10).interval(0), 'd');
            due("an augmented fourth", sing(house(1, 10), 13).interval(0), 'd');
        });
    }

    /** What noteAt, pitch and interval have in common. */
    private static void indexes(Sentences document, int promise) {
        document.test(promise, "- index: the index, from 0", () -> {
            Counterpointery x = sing(house(1, 7, 8, 9, 10), 14, 9, 13);
            Object[][] due = {{14, 9, 13}, {24, 16, 23}, {'u', 'd', 'f'}};
            for (int index = 0; index < 3; index++) {
                due("promise " + promise + " at " + index, read(x, promise, index), due[promise - 10][index]);
            }
        });
        document.test(promise, "Throws IndexOutOfBoundsException if it has no such note", () -> {
            Counterpointery x = sing(house(1, 7, 8, 9, 10), 14, 9, 13);
            for (int index : NO_INDEXES) {
                dueThrow("promise " + promise + " at " + index, INDEX, () -> read(x, promise, index));
            }
            x.clear(false);
            dueThrow("promise " + promise + " of none", INDEX, () -> read(x, promise, 0));
        });
    }

    private static Object read(Counterpointery x, int promise, int index) {
        if (promise == 10) {
            return x.noteAt(index);
        }
        if (promise == 11) {
            return x.pitch(index);
        }
        return x.interval(index);
    }
}
