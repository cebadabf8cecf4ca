/** The boundary cases of the promises 27 to 33: exchange, canons and figures. */
final class CanonBoundaries extends Checks {
    private CanonBoundaries() {
    }

    static void tell(Sentences document) {
        exchanged(document);
        canon(document);
        canons(document);
        canonAt(document);
        figures(document);
        isConsistent(document);
    }

    // ---- promise 27

    private static void exchanged(Sentences document) {
        document.test(27, "how many dissonant strong notes", () -> {
            due("strong ones", sing(house(1, 7, 7, 7), 15, 15, 15).exchanged(7), 3);
            due("weak ones are none", sing(house(2, 7, 7, 7), 14, 15, 15, 15, 14).exchanged(7), 1);
            due("with ratio 4", sing(house(4, 7, 7), 14, 15, 15, 15, 15).exchanged(7), 1);
            due("one that is none at first", sing(house(1, 7, 7), 14, 16).exchanged(12), 1);
        });
        document.test(27, "also below 0, where pitches go on likewise", () -> {
            // The note 0 so many steps lower, against a C: C B A G F E D C.
            int[] due = {0, 1, 0, 1, 0, 0, 1, 0};
            for (int steps = 7; steps <= 14; steps++) {
                due("a C " + steps + " lower", sing(house(1, 0, 0), 0, 0).exchanged(steps), 2 * due[steps - 7]);
            }
            due("E against an F, a ninth", sing(house(1, 3, 3), 2, 2).exchanged(7), 2);
            due("B against an F, a tritone", sing(house(1, 3, 3), 6, 6).exchanged(7), 2);
            due("E against a B, a fifth", sing(house(1, 6, 6), 2, 2).exchanged(7), 0);
        });
        document.test(27, "nothing feigned", () -> {
            Counterpointery x = sing(house(1, 7, 8), 14, 15);
            x.feign(true);
            due("the octave", x.exchanged(7), 0);
        });
        document.test(27, "- steps: the number of steps, 7 to 14", () -> {
            Counterpointery x = sing(house(1, 7, 7), 14, 16);
            int[] due = {0, 2, 0, 2, 0, 1, 1, 0};
            for (int steps = 7; steps <= 14; steps++) {
                due(steps + " lower", x.exchanged(steps), due[steps - 7]);
            }
        });
        document.test(27, "Returns the number of notes", () -> {
            due("none", sing(house(1, 7, 7), 14, 14).exchanged(7), 0);
            due("one", sing(house(1, 7, 7), 14, 15).exchanged(7), 1);
            due("all", sing(house(1, 7, 7), 15, 15).exchanged(7), 2);
        });
        document.test(27, "Throws IllegalArgumentException if the number is out of range", () -> {
            Counterpointery x = sing(house(1, 7, 7), 14, 16);
            for (int steps : row(6, 15, 0, -7, -14, Integer.MIN_VALUE, Integer.MAX_VALUE)) {
                dueThrow(steps + " lower", ILLEGAL, () -> x.exchanged(steps));
            }
        });
        document.test(27, "Throws IllegalStateException if the other line is not whole", () -> {
            dueThrow("no line", STATE, () -> new Counterpointery().exchanged(7));
            dueThrow("no other line", STATE, () -> house(1, 7, 8).exchanged(7));
            dueThrow("one note less", STATE, () -> sing(house(2, 7, 8), 14, 15).exchanged(14));
            dueThrow("one given note", STATE, () -> sing(house(1, 7), 14).exchanged(7));
        });
    }

    // ---- promise 28

    private static void canon(Sentences document) {
        document.test(28, "notes that sound together and are dissonant", () -> {
            due("C D, D E, E F", canonOf(1, 0, 14, 15, 16, 17), 3);
            due("C E, E G, G B", canonOf(1, 0, 14, 16, 18, 20), 0);
            due("the first and the last sound alone", canonOf(3, 0, 14, 15, 15, 16), 0);
            due("one pair sounds", canonOf(3, 0, 14, 14, 14, 15), 1);
        });
        document.test(28, "pairs of these behind each other that are perfect, both of one interval", () -> {
            due("fifths by leaps", canonOf(2, 0, 14, 15, 18, 19), 1);
            due("thirds", canonOf(2, 0, 14, 15, 16, 17), 0);
            due("a fifth and an octave", canonOf(2, 0, 14, 8, 18, 15), 0);
            due("a unison and an octave", canonOf(2, 0, 14, 8, 14, 15), 1);
            due("a fifth and a diminished one", canonOf(2, 0, 19, 20, 23, 24), 1);
            due("not behind each other", canonOf(3, 0, 14, 14, 15, 18, 16, 19), 0);
        });
        document.test(28, "in which both voices have moved", () -> {
            due("neither", canonOf(1, 0, 14, 14, 14), 0);
            due("the later voice stays", canonOf(2, 0, 14, 14, 18, 25), 0);
            due("the first voice stays", canonOf(2, 0, 14, 7, 18, 18), 0);
            due("both", canonOf(2, 0, 14, 21, 18, 25), 1);
        });
        document.test(28, "nothing is feigned", () -> {
            Counterpointery x = sing(house(1, 7, 8), 14, 15);
            x.feign(true);
            due("an octave", x.canon(1, 1), 0);
            due("a second", x.canon(1, 0), 1);
        });
        document.test(28, "- distance: the number of notes, 1 to 12", () -> {
            for (int distance = 1; distance <= 12; distance++) {
                Counterpointery x = house(1, 7, 7, 7, 7, 7, 7, 7, 7, 7, 7, 7, 7, 7);
                for (int i = 0; i < 13; i++) {
                    x.other(i < distance ? 14 : 15);
                }
                // As many Ds as sound against a C, the others against a D.
                due("canon at " + distance, x.canon(distance, 0), Math.min(distance, 13 - distance));
            }
        });
        document.test(28, "- steps: the number of steps, -7 to 7", () -> {
            int[] due = {0, 1, 0, 0, 1, 0, 1, 0, 1, 0, 1, 0, 0, 1, 0};
            for (int steps = -7; steps <= 7; steps++) {
                due("a C by " + steps, canonOf(1, steps, 14, 14), due[steps + 7]);
                due("a C below 0 by " + steps, canonOf(1, steps, 0, 0), due[steps + 7]);
            }
            due("below 0", canonOf(1, -7, 0, 2), 0);
            due("B below 0 and F, a tritone", canonOf(1, -1, 0, 3), 1);
            due("above 27", canonOf(1, 7, 27, 27), 0);
        });
        document.test(28, "Returns the number of faults", () -> {
            due("none", canonOf(1, 7, 14, 14), 0);
            due("two octaves ahead of a second", canonOf(1, 0, 14, 21, 14, 13), 2);
        });
        document.test(28, "Throws IllegalArgumentException if a number is out of range", () -> {
            for (int distance : row(0, 13, -1, Integer.MIN_VALUE, Integer.MAX_VALUE)) {
                dueThrow("at " + distance, ILLEGAL, () -> canonOf(distance, 0, 14, 14, 14));
            }
            for (int steps : row(-8, 8, Integer.MIN_VALUE, Integer.MAX_VALUE)) {
                dueThrow("by " + steps, ILLEGAL, () -> canonOf(1, steps, 14, 14, 14));
            }
        });
        document.test(28, "Throws IllegalStateException if the other line has not more notes than that", () -> {
            for (int notes = 0; notes <= 12; notes++) {
                Counterpointery x = house(1, 7, 7, 7, 7, 7, 7, 7, 7, 7, 7, 7, 7, 7);
                for (int i = 0; i < notes; i++) {
                    x.other(14);
                }
                for (int distance = Math.max(1, notes); distance <= 12; distance++) {
                    int far = distance;
                    dueThrow(notes + " notes at " + far, STATE, () -> x.canon(far, 0));
                }
                if (notes > 1) {
                    due(notes + " notes at one less", x.canon(notes - 1, 0), 0);
                }
            }
        });
    }

    private static Counterpointery choir(int... notes) {
        return sing(house(4, 7, 7, 7, 7, 7), notes);
    }

    private static int canonOf(int distance, int steps, int... notes) {
        return choir(notes).canon(distance, steps);
    }

    // ---- promises 29 and 30

    private static void canons(Sentences document) {
        document.test(29, "of distances less than the number of notes, at most 12", () -> {
            for (int notes = 2; notes <= 17; notes++) {
                due("canons of " + notes + " notes", held(notes).canons(), 9 * Math.min(12, notes - 1));
            }
        });
        document.test(29, "of -7 to 7 steps", () -> {
            // A C against itself: all but seconds, fourths and sevenths, the fourth being a fifth the other way.
            due("canons of two Cs", held(2).canons(), 9);
            due("the lowest", held(2).canonAt(0), 100 + 50 - 7);
            due("the highest", held(2).canonAt(8), 100 + 50 + 7);
        });
        document.test(29, "Returns the number of canons", () -> {
            for (int note : row(7, 8, 9, 10, 11, 12, 13)) {
                Counterpointery x = choir(note, note + 1);
                int due = 0;
                for (int steps = -7; steps <= 7; steps++) {
                    due += x.canon(1, steps) == 0 ? 1 : 0;
                }
                due("canons of a step", x.canons(), due);
            }
            // Up to 13 notes have canons where the first and the last one alone sound together.
            Counterpointery none = choir(16, 7, 8, 16, 7, 16, 14, 14, 12, 15, 8, 7, 13, 10);
            due("none", none.canons(), 0);
            dueThrow("the first of none", INDEX, () -> none.canonAt(0));
        });
        document.test(29, "Throws IllegalStateException if the other line has fewer than 2 notes", () -> {
            dueThrow("no line", STATE, () -> new Counterpointery().canons());
            dueThrow("no note", STATE, () -> choir().canons());
            dueThrow("one note", STATE, () -> choir(14).canons());
        });
    }

    /** A C that is held so many notes. */
    private static Counterpointery held(int notes) {
        Counterpointery x = choir();
        for (int i = 0; i < notes; i++) {
            x.other(14);
        }
        return x;
    }

    private static void canonAt(Sentences document) {
        document.test(30, "those with less distances first, then those with fewer steps", () -> {
            Counterpointery x = held(4);
            for (int index = 1; index < 27; index++) {
                due("in order", x.canonAt(index - 1) < x.canonAt(index), true);
            }
        });
        document.test(30, "- index: the index, from 0", () -> {
            due("the first", held(3).canonAt(0), 143);
            due("the last", held(3).canonAt(17), 257);
        });
        document.test(30, "Returns 100 times the distance, plus 50 more than the steps", () -> {
            int[] due = {143, 145, 146, 148, 150, 152, 154, 155, 157};
            for (int index = 0; index < 9; index++) {
                due("canon " + index, held(13).canonAt(index), due[index]);
                due("canon " + (index + 99), held(13).canonAt(index + 99), due[index] + 1100);
            }
        });
        document.test(30, "Throws IllegalStateException if the other line has fewer than 2 notes", () -> {
            dueThrow("no line", STATE, () -> new Counterpointery().canonAt(0));
            dueThrow("no note", STATE, () -> choir().canonAt(0));
            dueThrow("one note", STATE, () -> choir(14).canonAt(0));
        });
        document.test(30, "Throws IndexOutOfBoundsException if there is no such canon", () -> {
            for (int index : row(-1, 9, 10, 1000, Integer.MIN_VALUE, Integer.MAX_VALUE)) {
                dueThrow("canon " + index, INDEX, () -> held(2).canonAt(index));
            }
            dueThrow("beyond 12 distances", INDEX, () -> held(17).canonAt(108));
            due("the last of 12 distances", held(17).canonAt(107), 1257);
        });
    }

    // ---- promises 31 and 32

    private static void figures(Sentences document) {
        document.test(31, "the moves of the other line that are of one step", () -> {
            due("all", choir(14, 15, 14, 13).stepShare(), 1f);
            due("none", choir(14, 16, 14, 14).stepShare(), 0f);
        });
        document.test(31, "divided by that of its moves, from each note to the next one, both converted to float", () -> {
            due("one of three", choir(14, 14, 15, 17).stepShare(), 1f / 3f);
            due("two of three", choir(14, 13, 15, 16).stepShare(), 2f / 3f);
            due("one of seven", choir(14, 14, 15, 17, 14, 14, 14, 14).stepShare(), 1f / 7f);
        });
        document.test(31, "Throws ArithmeticException if it has fewer than 2 notes", () -> {
            dueThrow("no line", ARITHMETIC, () -> new Counterpointery().stepShare());
            dueThrow("no note", ARITHMETIC, () -> choir().stepShare());
            dueThrow("one note", ARITHMETIC, () -> choir(14).stepShare());
            due("two notes", choir(14, 15).stepShare(), 1f);
        });
        document.test(32, "Returns the mean pitch of the other line", () -> {
            Counterpointery x = sing(house(1, 7, 8), 14, 15);
            due("not feigned", x.meanPitch(), 25.0);
            x.feign(true);
            due("feigned", x.meanPitch(), 25.5);
        });
        document.test(32, "divided by the number of notes, both converted to double", () -> {
            due("of one", choir(15).meanPitch(), 26.0);
            due("of three", choir(14, 14, 15).meanPitch(), 74.0 / 3.0);
            due("of the lowest", choir(0).meanPitch(), 0.0);
        });
        document.test(32, "Throws ArithmeticException if it is empty", () -> {
            dueThrow("no line", ARITHMETIC, () -> new Counterpointery().meanPitch());
            dueThrow("no note", ARITHMETIC, () -> choir().meanPitch());
        });
    }

    // ---- promise 33

    private static void isConsistent(Sentences document) {
        document.test(33, "the given line has at most 4 notes, and the range at most 8", () -> {
            int[] given = {8, 10, 9, 8, 9};
            for (int ratio : row(1, 2, 4)) {
                Counterpointery x = house(ratio);
                due("nothing given", x.isConsistent(), true);
                for (int note : given) {
                    x.given(note);
                    for (int width = 7; width <= 9; width++) {
                        x.range(8, 7 + width);
                        due("a range of " + width, x.isConsistent(), true);
                    }
                }
            }
        });
        document.test(33, "Returns true if the invariants hold", () -> {
            for (int style = 0; style <= 2; style++) {
                Counterpointery x = sing(house(1, 8, 10, 9, 8), 8, 15, 14);
                x.range(8, 15);
                x.style(style);
                due("with some good line", x.isConsistent(), true);
                x.range(10, 13);
                due("with no good line", x.isConsistent(), true);
                due("the line stays", line(x), "8 15 14");
            }
        });
    }
}
