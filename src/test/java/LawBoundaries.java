/** The boundary cases of each law: the faults told while that law alone has a weight. */
final class LawBoundaries extends Checks {
    private LawBoundaries() {
    }

    static void tell(Sentences document) {
        places(document);
        dissonances(document);
        perfects(document);
        moves(document);
    }

    private static void law(Sentences document, String words, Call test) {
        document.test(Sentences.TERMS, words, test);
    }

    private static void due(String what, Counterpointery x, int[] notes, String want) {
        due(what + ": the faults of" + java.util.Arrays.toString(notes), told(sing(x, notes)), want);
    }

    private static Counterpointery feigned(String laws, int ratio, int... given) {
        Counterpointery x = houseOf(laws, ratio, given);
        x.feign(true);
        return x;
    }

    private static Counterpointery below(String laws, int ratio, int... given) {
        Counterpointery x = houseOf(laws, ratio, given);
        x.lower(true);
        return x;
    }

    // ---- laws of a place in the line

    private static void places(Sentences document) {
        law(document, "'b' the first note, if its interval is not perfect", LawBoundaries::imperfectBegin);
        law(document, "or is a fifth, 4 and 7, with a lower number than the given note", LawBoundaries::fifthBelow);
        law(document, "'e' the last note, if its interval is not 0 and 0", LawBoundaries::imperfectEnd);
        law(document, "or one of the voices has not come to it by one step", LawBoundaries::endWithoutStep);
        law(document, "as with one given note", LawBoundaries::endOfOneGiven);
        law(document, "or both have by the same direction", LawBoundaries::endByOneDirection);
        law(document, "on the other side of the given one than it should be", LawBoundaries::crossing);
        law(document, "the other line is to be higher, or is told to be lower", LawBoundaries::sides);
        law(document, "'u' a note with the very number of the given one", LawBoundaries::unison);
        law(document, "but the first and the last one", LawBoundaries::unisonAtTheEnds);
    }

    private static void imperfectBegin() {
        Counterpointery x = houseOf("b", 1, 7, 8, 9);
        due("an octave", x, row(14), "");
        due("a unison", x, row(7), "");
        due("an octave below", x, row(0), "");
        due("a fifth", x, row(11), "");
        due("a twelfth", x, row(18), "");
        due("a third", x, row(9), "0b");
        due("a fourth", x, row(10), "0b");
        due("a third behind the first note", x, row(14, 10, 11), "");
        due("a diminished fifth", houseOf("b", 1, 6, 7, 8), row(10), "0b");
        due("a feigned octave", feigned("b", 1, 8, 7), row(15, 16), "0b");
        due("an octave that is not feigned", feigned("b", 1, 8, 7), row(15, 17), "");
    }

    private static void fifthBelow() {
        due("a fifth below", houseOf("b", 1, 7, 8), row(3), "0b");
        due("a twelfth below", houseOf("b", 1, 14, 8), row(3), "0b");
        due("a fourth below", houseOf("b", 1, 7, 8), row(4), "0b");
        due("a fifth below that is told", below("b", 1, 7, 8), row(3), "0b");
        due("a fifth above", houseOf("b", 1, 3, 8), row(7), "");
        due("a unison below", houseOf("b", 1, 14, 8), row(7), "");
        due("a fifth below behind the first note", houseOf("b", 1, 7, 7), row(7, 3), "");
    }

    private static void imperfectEnd() {
        Counterpointery x = houseOf("e", 1, 7, 8, 7);
        due("an octave", x, row(14, 13, 14), "");
        due("two octaves", x, row(14, 20, 21), "");
        due("a unison", x, row(14, 6, 7), "");
        due("a fifth", x, row(14, 10, 11), "2e");
        due("a third", x, row(14, 8, 9), "2e");
        due("not yet the last one", x, row(14, 10), "");
        due("no note", x, row(), "");
        due("with ratio 2", houseOf("e", 2, 8, 7), row(14, 13, 14), "");
        due("a fifth with ratio 2", houseOf("e", 2, 8, 7), row(14, 10, 11), "2e");
        due("not yet, with ratio 4", houseOf("e", 4, 8, 7), row(14, 13, 14, 13), "");
        due("with ratio 4", houseOf("e", 4, 8, 7), row(14, 13, 14, 13, 14), "");
        due("a sixth with ratio 4", houseOf("e", 4, 8, 7), row(14, 13, 14, 13, 12), "4e");
        due("a fifth below, and one step", houseOf("e", 1, 8, 7), row(2, 3), "1e");
    }

    private static void endWithoutStep() {
        Counterpointery x = houseOf("e", 1, 8, 7);
        due("one step", x, row(13, 14), "");
        due("two steps", x, row(12, 14), "1e");
        due("no step", x, row(14, 14), "1e");
        due("two steps down", x, row(16, 14), "1e");
        due("the given one by two steps", houseOf("e", 1, 9, 7), row(13, 14), "1e");
        due("the given one by no step", houseOf("e", 1, 7, 7), row(13, 14), "1e");
        due("the given one by two steps up", houseOf("e", 1, 5, 7), row(15, 14), "1e");
    }

    private static void endOfOneGiven() {
        for (int ratio : row(1, 2, 4)) {
            Counterpointery x = houseOf("e", ratio, 7);
            due("a unison with ratio " + ratio, x, row(7), "0e");
            due("an octave with ratio " + ratio, x, row(14), "0e");
            due("a third with ratio " + ratio, x, row(9), "0e");
            x.given(8);
            due("the first of two with ratio " + ratio, x, row(7), "");
        }
    }

    private static void endByOneDirection() {
        due("both down", houseOf("e", 1, 8, 7), row(15, 14), "1e");
        due("both up", houseOf("e", 1, 6, 7), row(13, 14), "1e");
        due("contrary, the given one up", houseOf("e", 1, 6, 7), row(15, 14), "");
        due("contrary, the given one down", houseOf("e", 1, 8, 7), row(13, 14), "");
        due("both down with ratio 2", houseOf("e", 2, 8, 7), row(13, 15, 14), "2e");
    }

    private static void crossing() {
        due("lower", houseOf("x", 1, 7, 7, 7), row(6, 0, 3), "0x 1x 2x");
        due("of the same number", houseOf("x", 1, 7, 7, 7), row(7, 7, 7), "");
        due("higher", houseOf("x", 1, 7, 7, 7), row(8, 27, 14), "");
        due("weak notes", houseOf("x", 2, 7, 9), row(7, 6, 8), "1x 2x");
    }

    private static void sides() {
        due("higher", below("x", 1, 7, 7, 7), row(8, 27, 14), "0x 1x 2x");
        due("of the same number", below("x", 1, 7, 7, 7), row(7, 7, 7), "");
        due("lower", below("x", 1, 7, 7, 7), row(6, 0, 3), "");
        Counterpointery feigning = below("x", 1, 8, 16);
        feigning.feign(true);
        due("feigned, of the same number", feigning, row(8, 9), "");
        Counterpointery x = sing(below("x", 1, 7, 7, 7), 8, 6);
        x.lower(false);
        due("told to be higher again", told(x), "1x");
    }

    private static void unison() {
        Counterpointery x = houseOf("u", 1, 7, 8, 7, 8);
        due("a unison", x, row(7, 8), "1u");
        due("two unisons", x, row(9, 8, 7, 9), "1u 2u");
        due("an octave", x, row(9, 15, 14, 9), "");
        due("weak notes", houseOf("u", 2, 7, 8, 7), row(9, 7, 8, 8, 9), "1u 2u 3u");
        due("the next given one", houseOf("u", 2, 7, 8, 7), row(9, 8, 9, 7, 9), "");
        due("a feigned one", feigned("u", 1, 7, 8, 16), row(14, 8, 9), "1u");
    }

    private static void unisonAtTheEnds() {
        due("the ends", houseOf("u", 1, 7, 8, 7), row(7, 9, 7), "");
        due("all", houseOf("u", 1, 7, 8, 7), row(7, 8, 7), "1u");
        due("not yet the last one", houseOf("u", 1, 7, 8, 7), row(7, 8), "1u");
        due("two", houseOf("u", 1, 7, 8), row(7, 8), "");
        due("one", houseOf("u", 1, 7), row(7), "");
        due("the ends with ratio 4", houseOf("u", 4, 7, 8), row(7, 7, 9, 7, 8), "1u 3u");
    }

    // ---- laws of dissonance

    private static void dissonances(Sentences document) {
        law(document, "'d' a strong note that is dissonant", LawBoundaries::strongClash);
        law(document, "if it was not come to by one step", LawBoundaries::weakClashComeTo);
        law(document, "or is not left by one step in the same direction", LawBoundaries::weakClashLeft);
        law(document, "the fault is at the next note", LawBoundaries::weakClashPlace);
    }

    private static void strongClash() {
        due("each kind", houseOf("d", 1, 7, 7, 7, 7, 7, 7, 7), row(7, 8, 9, 10, 11, 12, 13), "1d 3d 6d");
        due("the first and the last", houseOf("d", 1, 7, 7), row(8, 8), "0d 1d");
        due("strong ones only", houseOf("d", 2, 7, 7, 7), row(7, 8, 8, 8, 7), "2d");
        due("strong ones only, with ratio 4", houseOf("d", 4, 7, 7), row(7, 8, 8, 8, 8), "4d");
        due("a feigned one", feigned("d", 1, 8, 7), row(15, 16), "0d");
        due("a tritone", houseOf("d", 1, 6, 7), row(17, 18), "0d");
        due("a tritone that is feigned away", feigned("d", 1, 6, 7), row(17, 18), "");
    }

    private static void weakClashComeTo() {
        Counterpointery x = houseOf("w", 2, 7, 9);
        due("by one step up", x, row(7, 8, 9), "");
        due("by one step down", x, row(9, 8, 7), "");
        due("by two steps", x, row(6, 8, 9), "2w");
        due("by two steps down", x, row(10, 8, 7), "2w");
        due("by no step", x, row(8, 8, 9), "2w");
        due("a consonant one by a leap", x, row(11, 9, 8), "");
        due("a feigned one", feigned("w", 2, 7, 15), row(13, 14, 15), "");
        due("a feigned one by a leap", feigned("w", 2, 7, 15), row(12, 14, 15), "2w");
        due("the same one not feigned", houseOf("w", 2, 7, 15), row(12, 14, 15), "");
        due("strong ones", houseOf("w", 1, 7, 7, 7), row(10, 8, 10), "");
    }

    private static void weakClashLeft() {
        Counterpointery x = houseOf("w", 2, 7, 9);
        due("back", x, row(7, 8, 7), "2w");
        due("by two steps", x, row(7, 8, 10), "2w");
        due("by no step", x, row(7, 8, 8), "2w");
        due("back down", x, row(9, 8, 9), "2w");
        due("by two steps down", x, row(9, 8, 6), "2w");
        due("come to and left by two steps", x, row(6, 8, 10), "2w");
        due("two behind each other", houseOf("w", 4, 6, 7), row(8, 9, 10, 11, 12), "");
        due("two, of which the second turns back", houseOf("w", 4, 6, 7), row(8, 9, 10, 9, 8), "3w");
    }

    private static void weakClashPlace() {
        Counterpointery x = houseOf("w", 4, 7, 9);
        due("the next note is not there", x, row(11, 8), "");
        due("the next note is there", x, row(11, 8, 9), "2w");
        due("each has its own next note", x, row(11, 8, 10, 8, 9), "2w 3w 4w");
        due("the next note is strong", x, row(11, 9, 11, 8, 9), "4w");
        due("the first of two", houseOf("w", 2, 7, 9, 7), row(11, 10, 11, 10, 9), "2w");
        due("the second of two", houseOf("w", 2, 7, 9, 7), row(11, 10, 9, 10, 9), "4w");
    }

    // ---- laws of perfect intervals

    private static void perfects(Sentences document) {
        law(document, "'p' a note behind the first one that is perfect", LawBoundaries::parallels);
        law(document, "if both voices have moved since the note before, and the interval there was the same",
                LawBoundaries::parallelsOfMoves);
        law(document, "'q' a strong note behind the first one that is perfect", LawBoundaries::strongParallels);
        law(document, "if both voices have moved since the strong note before", LawBoundaries::strongParallelsOfMoves);
        law(document, "it is none with the ratio 1", LawBoundaries::strongParallelsOfRatios);
        law(document, "if both voices have moved in the same direction since the note before", LawBoundaries::hidden);
        law(document, "and the other line has leapt", LawBoundaries::hiddenByLeap);
        law(document, "where both are of one given note, it does not move", LawBoundaries::heldGiven);
    }

    private static void parallels() {
        Counterpointery x = houseOf("p", 1, 7, 8, 9);
        due("the first note", x, row(14), "");
        due("octaves", x, row(14, 15, 16), "1p 2p");
        due("fifths", x, row(11, 12, 13), "1p 2p");
        due("thirds", x, row(9, 10, 11), "");
        due("a fifth behind an octave", x, row(14, 12), "");
        due("an octave behind a fifth", x, row(11, 15), "");
        due("a third between", x, row(11, 10, 13), "");
        due("a feigned octave", feigned("p", 1, 7, 8, 9), row(14, 15, 16), "");
    }

    private static void parallelsOfMoves() {
        due("the given one stays", houseOf("p", 1, 7, 7), row(11, 18), "");
        due("the other one stays", houseOf("p", 1, 7, 14), row(14, 14), "");
        due("both stay", houseOf("p", 1, 7, 7), row(11, 11), "");
        due("by contrary motion", houseOf("p", 1, 7, 8), row(14, 8), "1p");
        due("with ratio 2", houseOf("p", 2, 7, 8), row(14, 11, 12), "2p");
        due("not since the strong one", houseOf("p", 2, 7, 8), row(11, 10, 12), "");
    }

    private static void strongParallels() {
        Counterpointery x = houseOf("q", 2, 7, 8, 7);
        due("the first note", x, row(14), "");
        due("octaves", x, row(14, 11, 15, 13, 14), "2q 4q");
        due("fifths", x, row(11, 14, 12, 9, 11), "2q 4q");
        due("thirds", x, row(9, 14, 10, 9, 9), "");
        due("an octave and a fifth", x, row(14, 13, 12, 9, 14), "");
        due("weak notes", x, row(9, 14, 10, 15, 9), "");
        due("a weak note and a strong one", x, row(9, 11, 12, 11, 12), "");
    }

    private static void strongParallelsOfMoves() {
        due("the given one stays", houseOf("q", 2, 7, 7), row(11, 14, 18), "");
        due("the other one stays", houseOf("q", 2, 7, 14), row(14, 14, 14), "");
        due("the other one comes back", houseOf("q", 2, 7, 14), row(14, 11, 14), "");
        due("both move", houseOf("q", 2, 7, 14), row(14, 14, 21), "2q");
        due("the other one in two moves", houseOf("q", 4, 7, 8), row(14, 14, 14, 14, 15), "4q");
        due("by contrary motion", houseOf("q", 2, 7, 8), row(14, 11, 8), "2q");
    }

    private static void strongParallelsOfRatios() {
        due("ratio 1", houseOf("q", 1, 7, 8, 9, 10, 11), row(14, 15, 16, 17, 18), "");
        due("ratio 2", houseOf("q", 2, 7, 8, 9), row(14, 13, 15, 14, 16), "2q 4q");
        due("ratio 4", houseOf("q", 4, 7, 8), row(14, 13, 12, 13, 15), "4q");
    }

    private static void hidden() {
        due("up to a fifth", houseOf("h", 1, 7, 8), row(10, 12), "1h");
        due("up to an octave", houseOf("h", 1, 7, 8), row(11, 15), "1h");
        due("down to a fifth", houseOf("h", 1, 8, 7), row(13, 11), "1h");
        due("contrary", houseOf("h", 1, 8, 7), row(9, 11), "");
        due("the given one stays", houseOf("h", 1, 7, 7), row(9, 11), "");
        due("to a third", houseOf("h", 1, 7, 8), row(7, 10), "");
        due("the first note", houseOf("h", 1, 7, 8), row(11), "");
        due("to a feigned octave", feigned("h", 1, 7, 8, 9), row(11, 15, 16), "");
        due("to that octave, not feigned", houseOf("h", 1, 7, 8, 9), row(11, 15, 16), "1h");
    }

    private static void hiddenByLeap() {
        due("by one step", houseOf("h", 1, 7, 9), row(12, 13), "");
        due("by two steps", houseOf("h", 1, 7, 9), row(11, 13), "1h");
        due("by one step down", houseOf("h", 1, 9, 7), row(12, 11), "");
        due("the other one stays", houseOf("h", 1, 7, 8), row(12, 12), "");
        due("the given one by a step", houseOf("h", 1, 7, 8), row(10, 12), "1h");
    }

    private static void heldGiven() {
        due("octaves against one given note", houseOf("ph", 4, 7, 8), row(7, 14, 21, 14), "");
        due("octaves where it moves", houseOf("ph", 4, 7, 8), row(7, 14, 7, 14, 22), "4p 4h");
        due("an end by its own step only", houseOf("e", 2, 8, 7, 7), row(14, 13, 14, 13, 14), "4e");
        due("a given step ahead of the last two", houseOf("e", 1, 8, 7, 7), row(15, 13, 14), "2e");
    }

    // ---- laws of moves

    private static void moves(Sentences document) {
        law(document, "'s' a note with the very number of the one before", LawBoundaries::standing);
        law(document, "'t' a note to which the line has leapt by 6 steps or more than 7", LawBoundaries::leapSteps);
        law(document, "or by a pitch of 6 or 10 or 11 semitones", LawBoundaries::leapSemitones);
        law(document, "semitones, feigned ones counted, either way", LawBoundaries::feignedLeaps);
        law(document, "'r' a note behind a leap of 4 steps or more", LawBoundaries::greatLeaps);
        law(document, "if it is not one step back in the other direction", LawBoundaries::stepsBack);
    }

    private static void standing() {
        Counterpointery x = houseOf("s", 2, 7, 7, 7);
        due("the first note", x, row(7), "");
        due("all the same", x, row(7, 7, 7, 7, 7), "1s 2s 3s 4s");
        due("octaves", x, row(7, 14, 7, 0, 7), "");
        due("a note between", x, row(7, 8, 7, 7, 8), "3s");
        due("a feigned one", feigned("s", 1, 7, 7, 7), row(8, 8, 9), "1s");
    }

    private static void leapSteps() {
        String[] due = {"", "", "", "", "", "", "1t", "", "1t", "1t", "1t"};
        for (int steps = 0; steps <= 10; steps++) {
            Counterpointery x = houseOf("t", 1, 7, 7, 7);
            due("up by " + steps, x, row(14, 14 + steps), due[steps]);
            due("down by " + steps, x, row(16, 16 - steps), due[steps]);
        }
        due("up by all", houseOf("t", 1, 7, 7, 7), row(0, 27), "1t");
        due("down by two octaves", houseOf("t", 1, 7, 7, 7), row(14, 0), "1t");
    }

    private static void leapSemitones() {
        Counterpointery x = houseOf("t", 1, 7, 7, 7);
        due("F to B, 6", x, row(10, 13), "1t");
        due("B to F, 6", x, row(13, 17), "1t");
        due("down from B to F, 6", x, row(13, 10), "1t");
        due("C to F, 5", x, row(7, 10), "");
        due("C to G, 7", x, row(7, 11), "");
        due("C to A, 9", x, row(7, 12), "");
        due("D to C, 10", x, row(8, 14), "1t");
        due("C to B, 11", x, row(7, 13), "1t");
        due("C to C, 12", x, row(7, 14), "");
        due("the first note", x, row(10), "");
        due("two octaves", x, row(7, 21), "1t");
    }

    private static void feignedLeaps() {
        due("F to a feigned A, 5", feigned("t", 1, 7, 7, 7), row(10, 12, 13), "");
        due("E to a feigned A, 6", feigned("t", 1, 7, 7, 7), row(9, 12, 13), "1t");
        due("down from E to a feigned A, 6", feigned("t", 1, 7, 7, 7), row(16, 12, 13), "1t");
        due("B to a feigned F, 7", feigned("t", 1, 7, 7, 7), row(13, 17, 18), "");
        due("F to a feigned D, 10", feigned("t", 1, 7, 7, 7), row(10, 15, 16), "1t");
        due("D to a feigned D, 13", feigned("t", 1, 7, 7, 7), row(8, 15, 16), "");
        due("down from D to a feigned D, 11", feigned("t", 1, 7, 7, 7), row(22, 15, 16), "1t");
        due("with ratio 2", feigned("t", 2, 7, 7), row(22, 15, 16), "1t");
    }

    private static void greatLeaps() {
        Counterpointery x = houseOf("r", 1, 7, 7, 7, 7);
        for (int steps = 2; steps <= 8; steps++) {
            due("on, behind up by " + steps, x, row(14, 14 + steps, 15 + steps), steps < 4 ? "" : "2r");
            due("on, behind down by " + steps, x, row(14, 14 - steps, 13 - steps), steps < 4 ? "" : "2r");
        }
        due("the leap itself", x, row(14, 18), "");
        due("the last leap", x, row(14, 15, 14, 18), "");
        due("two leaps", x, row(14, 18, 14, 18), "2r 3r");
    }

    private static void stepsBack() {
        Counterpointery x = houseOf("r", 1, 7, 7, 7, 7);
        due("one step back", x, row(14, 18, 17, 18), "");
        due("one step back up", x, row(18, 14, 15, 14), "");
        due("no step", x, row(14, 18, 18), "2r");
        due("two steps back", x, row(14, 18, 16), "2r");
        due("one step on", x, row(14, 18, 19), "2r");
        due("no step, behind a leap down", x, row(18, 14, 14), "2r");
        due("two steps back up", x, row(18, 14, 16), "2r");
        due("one step on down", x, row(18, 14, 13), "2r");
        due("strong and weak", houseOf("r", 2, 7, 8), row(14, 18, 19), "2r");
    }
}
