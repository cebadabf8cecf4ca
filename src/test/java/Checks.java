/** What the tests share: how a house is built and read, and how its answers are compared with what is due. */
abstract class Checks {
    static final String LAWS = "bedwpqhxustr";
    static final int[] NO_NOTES = {-1, 28, 100, Integer.MIN_VALUE, Integer.MAX_VALUE};
    static final Class<?> ILLEGAL = IllegalArgumentException.class;
    static final Class<?> STATE = IllegalStateException.class;
    static final Class<?> INDEX = IndexOutOfBoundsException.class;
    static final Class<?> UNSUPPORTED = UnsupportedOperationException.class;
    static final Class<?> NONE_SUCH = java.util.NoSuchElementException.class;
    static final Class<?> ARITHMETIC = ArithmeticException.class;
    private static int wrong = 0;

    interface Call {
        void run();
    }

    // ---- what is due

    static void due(String what, Object got, Object want) {
        if (!want.equals(got)) {
            wrong++;
            System.out.println(what + " answered " + got + ", due is " + want);
        }
    }

    static void dueThrow(String what, Class<?> want, Call call) {
        Class<?> got = null;
        try {
            call.run();
        } catch (RuntimeException e) {
            got = e.getClass();
        }
        if (got != want) {
            wrong++;
            System.out.println(what + " threw " + got + ", due is " + want);
        }
    }

    /** Tells how the test went, and ends it with exit code 1 if an answer was not as due. */
    static void end(String allIsWell) {
        System.out.println(wrong == 0 ? allIsWell : wrong + " answers are not as due");
        if (wrong != 0) {
            System.exit(1);
        }
    }

    // ---- building

    static int[] row(int... notes) {
        return notes;
    }

    static Counterpointery house(int ratio, int... given) {
        Counterpointery x = new Counterpointery();
        x.ratio(ratio);
        for (int note : given) {
            x.given(note);
        }
        return x;
    }

    static Counterpointery sing(Counterpointery x, int... notes) {
        x.clear(false);
        for (int note : notes) {
            x.other(note);
        }
        return x;
    }

    static void allWeights(Counterpointery x, int weight) {
        for (char law : LAWS.toCharArray()) {
            x.setLaw(law, weight);
        }
    }

    /** A house in which those laws alone have a weight, which is 10. */
    static Counterpointery houseOf(String laws, int ratio, int... given) {
        Counterpointery x = house(ratio, given);
        allWeights(x, 0);
        for (char law : laws.toCharArray()) {
            x.setLaw(law, 10);
        }
        return x;
    }

    // ---- reading

    static String line(Counterpointery x) {
        StringBuilder text = new StringBuilder();
        for (int i = 0; i < x.notes(); i++) {
            text.append(i == 0 ? "" : " ").append(x.noteAt(i));
        }
        return text.toString();
    }

    static String told(Counterpointery x) {
        StringBuilder text = new StringBuilder();
        int faults = x.faults();
        for (int i = 0; i < faults; i++) {
            text.append(i == 0 ? "" : " ").append(x.faultAt(i)).append(x.faultOf(i));
        }
        return text.toString();
    }

    static String barsOf(Counterpointery x) {
        StringBuilder text = new StringBuilder();
        for (int i = 0; i < x.bars(); i++) {
            text.append(x.barAt(i));
        }
        return text.toString();
    }

    static String weightsOf(Counterpointery x) {
        StringBuilder text = new StringBuilder();
        for (char law : LAWS.toCharArray()) {
            text.append(law).append(x.weight(law)).append(' ');
        }
        return text.toString();
    }

    /** All that a house is set on, found by calls that change it: it is of no use afterwards. */
    static String everything(Counterpointery x) {
        StringBuilder text = new StringBuilder(line(x));
        text.append(" | ").append(weightsOf(x));
        text.append("| lower ").append(x.lower(false)).append(", feigns ").append(x.feign(false));
        text.append(", ratio ").append(x.ratio(1)).append(" | given");
        allWeights(x, 0);
        x.setLaw('x', 1);
        for (int place = 0; hasPlace(x, place); place++) {
            text.append(' ').append(givenAt(x, place));
        }
        x.clear(true);
        x.setLaw('x', 0);
        x.given(0);
        x.given(0);
        text.append(" | range of ").append(x.goodLines());
        x.find();
        return text.append(" from ").append(x.noteAt(0)).toString();
    }

    private static boolean hasPlace(Counterpointery x, int place) {
        try {
            x.other(0);
            return true;
        } catch (IllegalStateException e) {
            return false;
        }
    }

    /** A given note, by the lowest note of the other line that is not on the wrong side of it. */
    private static int givenAt(Counterpointery x, int place) {
        int least = 0;
        int most = 27;
        while (least < most) {
            int middle = (least + most) / 2;
            x.change(place, middle);
            if (x.cost() == 0) {
                most = middle;
            } else {
                least = middle + 1;
            }
        }
        x.change(place, least);
        return least;
    }
}
