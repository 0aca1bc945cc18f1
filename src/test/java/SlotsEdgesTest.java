/** The edges that promises 18 to 31 name: poly, keepBase, drop, add, term, size, times, plus, degree, leads, reduce, belongs, stands, kept. */
public final class SlotsEdgesTest {
    /** By 7: x x + y + 3 and y y + 2 x. */
    private static final String PLAIN = "put(0, 0, 1, 1) = 0; put(0, 0, 0, 3) = 0; put(1, 1, 0, 2) = 0\n";
    /** Slot 0, by 3, 3: the stairs but 1 and x, and x x x. */
    private static final String SEVEN_STAIRS_AND_ONE = """
            poly(0) = 0
            add(0, 1, 0, 1) = 1; add(0, 1, 0, 2) = 2; add(0, 1, 1, 1) = 3; add(0, 1, 1, 2) = 4
            add(0, 1, 2, 0) = 5; add(0, 1, 2, 1) = 6; add(0, 1, 2, 2) = 7; add(0, 1, 3, 0) = 8
            """;

    public static void main(String[] args) {
        polyOverEach();
        keepBaseOverEach();
        keepBaseInOrders();
        dropOfEach();
        addAtTheEnds();
        addOfNought();
        addIsFull();
        termSoMany();
        sizeOfEach();
        timesAtTheEnds();
        timesOfNoTerms();
        plusOfNought();
        plusIsFull();
        plusOfItself();
        plusOfEither();
        degreeAtTheEnds();
        leadsAtTheEnds();
        leadsWouldBeTooGreat();
        leadsOfEight();
        reduceToEightAndNine();
        reduceAtTheEnds();
        belongsAtTheEnds();
        standsAtTheEnds();
        standsByItsOrderAndWeights();
        keptOfWhat();
        Due.end();
    }

    private static void polyOverEach() {
        Script.run("Promise 18: what it held (0 nothing, 1 a POLYNOMIAL, 2 a BASE)", """
                poly(0) = 0; poly(0) = 1; add(0, 1, 1, 1) = 1; poly(0) = 1; size(0) = 0; term(0, 0, 0) = NONE
                keepBase(0, 0) = 2; poly(0) = 2; size(0) = 0; drop(0) = 1; poly(0) = 0
                poly(3) = 0; poly(4) = BAD; poly(-1) = BAD; poly(LOWEST) = BAD; poly(HIGHEST) = BAD; count(9) = 2
                """);
    }

    private static void keepBaseOverEach() {
        Script.run("Promise 19: over nothing, a POLYNOMIAL, a BASE", """
                keepBase(0, 0) = 2; keepBase(0, 1) = 2; kept(0, 0) = 1; poly(0) = 2; add(0, 1, 1, 1) = 1; keepBase(0, 3) = 2
                kept(0, 0) = 3; term(0, 0, 0) = CAST; count(9) = 0; count(10) = 1; poly(0) = 2; size(0) = 0
                """);
        Script.run("Promise 19: how many MEMBERS", """
                system(2, 3) = 6; put(1, 1, 1, 1) = 0; keepBase(0, 0) = 3; keepBase(1, 1) = 2; size(0) = 3; size(1) = 2
                system(1, 1) = 1; keepBase(2, 0) = 2; size(0) = 3
                """);
    }

    private static void keepBaseInOrders() {
        Script.run("Promise 19: BAD", """
                poly(1) = 0; add(1, 2, 3, 4) = 1
                keepBase(1, -1) = BAD; keepBase(1, 5) = BAD; keepBase(1, LOWEST) = BAD; keepBase(1, HIGHEST) = BAD
                keepBase(-1, 0) = BAD; keepBase(4, 0) = BAD; keepBase(LOWEST, 0) = BAD; keepBase(HIGHEST, 0) = BAD
                keepBase(4, 5) = BAD; term(1, 0, 0) = 2; size(0) = NULL
                keepBase(0, 0) = 2; keepBase(3, 4) = 2; kept(0, 0) = 0; kept(3, 0) = 4
                """);
    }

    private static void dropOfEach() {
        Script.run("Promise 20: what it held, as above", """
                drop(0) = 0; poly(0) = 0; drop(0) = 1; drop(0) = 0; size(0) = NULL
                poly(0) = 0; add(0, 1, 1, 1) = 1; drop(0) = 1; poly(0) = 0; size(0) = 0
                keepBase(0, 0) = 2; drop(0) = 2; drop(0) = 0; stands(0) = NULL; kept(0, 0) = NULL
                poly(3) = 0; drop(-1) = BAD; drop(4) = BAD; drop(LOWEST) = BAD; drop(HIGHEST) = BAD; size(3) = 0; drop(3) = 1
                """);
    }

    private static void addAtTheEnds() {
        Script.run("Promise 21: c (0 .. p less 1), i, j below 0", """
                add(0, 1, 0, 0) = NULL; keepBase(0, 0) = 2; add(0, 1, 0, 0) = CAST; poly(0) = 2
                add(0, 6, 0, 0) = 1; add(0, 7, 0, 0) = BAD; add(0, -1, 0, 0) = BAD; add(0, LOWEST, 0, 0) = BAD
                add(0, HIGHEST, 0, 0) = BAD; add(0, 1, -1, 0) = BAD; add(0, 1, 0, -1) = BAD; add(0, 1, LOWEST, LOWEST) = BAD
                add(0, 0, -1, 0) = BAD; add(0, 0, 0, -1) = BAD
                add(0, 6, HIGHEST, 0) = 2; add(0, 6, 0, HIGHEST) = 3; add(0, 6, HIGHEST, HIGHEST) = 4
                term(0, 0, 2) = HIGHEST; term(0, 1, 1) = HIGHEST; term(0, 1, 2) = 0; term(0, 2, 2) = HIGHEST; term(0, 3, 0) = 6
                """);
    }

    private static void addOfNought() {
        Script.run("Promise 21: numbers that are not 0", """
                poly(0) = 0; add(0, 0, 0, 0) = 0; add(0, 0, HIGHEST, HIGHEST) = 0; size(0) = 0
                add(0, 3, 1, 1) = 1; add(0, 0, 1, 1) = 1; add(0, 0, 2, 2) = 1; term(0, 0, 0) = 3
                add(0, 5, 1, 1) = 1; term(0, 0, 0) = 1; add(0, 6, 1, 1) = 0; term(0, 0, 0) = NONE
                """);
        Script.run("Promise 21: the first, the last, one between goes", Script.EIGHT_TERMS + """
                add(0, 6, 7, 0) = 7; term(0, 0, 1) = 6; add(0, 6, 0, 0) = 6; term(0, 5, 1) = 1; term(0, 6, 1) = NONE
                add(0, 6, 3, 0) = 5; term(0, 2, 1) = 4; term(0, 3, 1) = 2
                """);
    }

    private static void addIsFull() {
        Script.run("Promise 21: FULL: a ninth TERM", Script.EIGHT_TERMS + """
                add(0, 1, 8, 0) = FULL; add(0, 1, 0, 1) = FULL; add(0, 1, 3, 1) = FULL; add(0, 6, HIGHEST, HIGHEST) = FULL
                add(0, 0, 8, 0) = 8; add(0, 1, 3, 0) = 8; term(0, 4, 0) = 2; add(0, 5, 3, 0) = 7; add(0, 1, 8, 0) = 8
                add(0, 1, 3, 0) = FULL; term(0, 0, 1) = 8; term(0, 7, 1) = 0
                """);
    }

    private static void termSoMany() {
        Script.run("Promise 22: NONE: not so many. BAD: k below 0", Script.EIGHT_TERMS + """
                term(0, 0, 1) = 7; term(0, 7, 1) = 0; term(0, 8, 1) = NONE; term(0, 9, 1) = NONE; term(0, HIGHEST, 1) = NONE
                term(0, -1, 1) = BAD; term(0, LOWEST, 1) = BAD
                term(0, 0, 0) = 1; term(0, 0, 2) = 0; term(0, 0, 3) = BAD; term(0, 0, -1) = BAD
                term(0, 0, LOWEST) = BAD; term(0, 0, HIGHEST) = BAD; term(0, 8, 3) = BAD
                poly(0) = 1; term(0, 0, 0) = NONE; term(0, 0, 1) = NONE; term(0, 0, 2) = NONE
                keepBase(0, 0) = 2; term(0, 0, 0) = CAST; term(0, 2, 0) = CAST; drop(0) = 2; term(0, 0, 0) = NULL
                """);
    }

    private static void sizeOfEach() {
        Script.run("Promise 23: BAD; NULL", Script.EIGHT_TERMS + """
                size(0) = 8; size(1) = NULL; size(3) = NULL; size(4) = BAD; size(-1) = BAD; size(LOWEST) = BAD; size(HIGHEST) = BAD
                poly(0) = 1; size(0) = 0; keepBase(0, 0) = 2; size(0) = 2; drop(0) = 2; size(0) = NULL
                """);
    }

    private static void timesAtTheEnds() {
        Script.run("Promise 24: MUCH: an i, a j would be too great", """
                times(0, 0, 0) = NULL; keepBase(0, 0) = 2; times(0, 0, 0) = CAST; poly(0) = 2
                add(0, 1, 5, 0) = 1; add(0, 2, 0, 9) = 2
                times(0, 2147483642, 2147483638) = 2; term(0, 0, 1) = HIGHEST; term(0, 0, 2) = 2147483638
                term(0, 1, 1) = 2147483642; term(0, 1, 2) = HIGHEST
                times(0, 1, 0) = MUCH; times(0, 0, 1) = MUCH; times(0, 1, 1) = MUCH; times(0, HIGHEST, HIGHEST) = MUCH
                times(0, 0, 0) = 2
                """);
        Script.run("Promise 24: one more than that", """
                poly(0) = 0; add(0, 1, 5, 0) = 1; add(0, 2, 0, 9) = 2
                times(0, 2147483643, 0) = MUCH; times(0, 0, 2147483639) = MUCH
                times(0, 2147483643, 2147483638) = MUCH; times(0, 2147483642, 2147483639) = MUCH
                times(0, HIGHEST, 0) = MUCH; times(0, 0, HIGHEST) = MUCH
                term(0, 0, 1) = 5; term(0, 0, 2) = 0; term(0, 1, 1) = 0; term(0, 1, 2) = 9
                times(0, -1, 0) = BAD; times(0, 0, -1) = BAD; times(0, LOWEST, 0) = BAD; times(0, 0, LOWEST) = BAD
                """);
        Script.run("Promise 24: of eight TERMS the last alone is too great", """
                poly(0) = 0; add(0, 1, 7, 0) = 1; add(0, 1, 6, 0) = 2; add(0, 1, 5, 0) = 3; add(0, 1, 4, 0) = 4
                add(0, 1, 3, 0) = 5; add(0, 1, 2, 0) = 6; add(0, 1, 1, 0) = 7; add(0, 1, 0, HIGHEST) = 8
                times(0, 1, 1) = MUCH; times(0, 1, 0) = 8; term(0, 7, 1) = 1; term(0, 7, 2) = HIGHEST; term(0, 0, 1) = 8
                """);
    }

    private static void timesOfNoTerms() {
        Script.run("Promise 24: where there is no TERM, none is too great", """
                poly(0) = 0; times(0, HIGHEST, HIGHEST) = 0; times(0, HIGHEST, HIGHEST) = 0; times(0, -1, HIGHEST) = BAD; size(0) = 0
                """);
    }

    private static void plusOfNought() {
        Script.run("Promise 25: c 0 .. p less 1", """
                poly(0) = 0; add(0, 3, 1, 0) = 1; poly(1) = 0; add(1, 4, 1, 0) = 1; add(1, 1, 0, 0) = 2
                plus(0, 1, 0) = 1; plus(0, 1, 7) = BAD; plus(0, 1, -1) = BAD; plus(0, 1, LOWEST) = BAD; plus(0, 1, HIGHEST) = BAD
                plus(4, 1, 1) = BAD; plus(0, 4, 1) = BAD; plus(-1, 1, 1) = BAD; plus(0, -1, 1) = BAD
                term(0, 0, 0) = 3; plus(0, 1, 6) = 2; term(0, 0, 0) = 6; term(0, 1, 0) = 6; plus(0, 1, 1) = 1; term(0, 0, 0) = 3
                size(1) = 2; poly(2) = 0; plus(0, 2, 6) = 1; plus(2, 0, 6) = 1; term(2, 0, 0) = 4; plus(2, 2, 0) = 1
                """);
    }

    private static void plusIsFull() {
        Script.run("Promise 25: FULL: a ninth TERM", Script.EIGHT_TERMS + """
                poly(1) = 0; add(1, 1, 8, 0) = 1; plus(0, 1, 1) = FULL; plus(0, 1, 0) = 8; plus(1, 0, 1) = FULL; plus(1, 0, 0) = 1
                add(1, 6, 0, 0) = 2; plus(0, 1, 1) = 8; term(0, 0, 1) = 8; term(0, 7, 1) = 1
                plus(0, 1, 1) = FULL; plus(0, 1, 6) = 8; term(0, 7, 1) = 0
                """);
        Script.run("Promise 25: eight and eight others", Script.EIGHT_TERMS + """
                poly(1) = 0; plus(1, 0, 1) = 8; times(1, 0, 1) = 8; plus(0, 1, 1) = FULL; plus(0, 1, 0) = 8; plus(1, 0, 6) = FULL
                times(0, 0, 1) = 8; plus(0, 1, 1) = 8; term(0, 7, 0) = 2; plus(0, 1, 5) = 0
                """);
    }

    private static void plusOfItself() {
        Script.run("Promise 25: SLOT t (perhaps itself)", Script.EIGHT_TERMS + """
                plus(0, 0, 0) = 8; plus(0, 0, 1) = 8; term(0, 0, 0) = 2; term(0, 7, 0) = 2; plus(0, 0, 5) = 8; term(0, 3, 0) = 5
                plus(0, 0, 7) = BAD; plus(0, 0, 6) = 0; plus(0, 0, 6) = 0; size(0) = 0
                """);
    }

    private static void plusOfEither() {
        Script.run("Promise 25: NULL: either; CAST: either", """
                poly(0) = 0; keepBase(1, 0) = 2
                plus(0, 2, 1) = NULL; plus(2, 0, 1) = NULL; plus(2, 3, 1) = NULL; plus(2, 2, 1) = NULL
                plus(1, 2, 1) = NULL; plus(2, 1, 1) = NULL
                plus(0, 1, 1) = CAST; plus(1, 0, 1) = CAST; plus(1, 1, 1) = CAST; plus(0, 1, 0) = CAST; plus(0, 0, 1) = 0
                """);
    }

    private static void degreeAtTheEnds() {
        Script.run("Promise 26: NONE: no TERMS", """
                degree(0) = NULL; keepBase(0, 0) = 2; degree(0) = CAST; poly(0) = 2; degree(0) = NONE
                add(0, 1, 0, 0) = 1; degree(0) = 0; add(0, 6, 0, 0) = 0; degree(0) = NONE
                degree(-1) = BAD; degree(4) = BAD; degree(LOWEST) = BAD; degree(HIGHEST) = BAD
                """);
        Script.run("Promise 26: MUCH", """
                poly(0) = 0; add(0, 1, HIGHEST, 0) = 1; degree(0) = HIGHEST; times(0, 0, 1) = 1; degree(0) = MUCH
                poly(0) = 1; add(0, 1, 0, HIGHEST) = 1; degree(0) = HIGHEST; times(0, 1, 0) = 1; degree(0) = MUCH
                poly(0) = 1; add(0, 1, 1073741824, 1073741823) = 1; degree(0) = HIGHEST
                poly(0) = 1; add(0, 1, 1073741824, 1073741824) = 1; degree(0) = MUCH
                poly(0) = 1; add(0, 1, HIGHEST, HIGHEST) = 1; degree(0) = MUCH
                """);
        Script.run("Promise 26: whichever TERM is too great", """
                poly(0) = 0; add(0, 1, 5, 5) = 1; add(0, 1, 1, HIGHEST) = 2; add(0, 1, 0, 3) = 3; degree(0) = MUCH
                add(0, 6, 1, HIGHEST) = 2; degree(0) = 10; add(0, 1, 0, 11) = 3; degree(0) = 11
                """);
    }

    private static void leadsAtTheEnds() {
        Script.run("Promise 27: NONE: no TERMS", """
                leads(0, 0) = NULL; keepBase(0, 0) = 2; leads(0, 0) = CAST; poly(0) = 2
                leads(0, 0) = NONE; leads(0, 1) = NONE; leads(0, 2) = NONE; leads(0, 3) = NONE; leads(0, 4) = NONE
                leads(0, -1) = BAD; leads(0, 5) = BAD; leads(0, LOWEST) = BAD; leads(0, HIGHEST) = BAD
                leads(-1, 0) = BAD; leads(4, 0) = BAD
                add(0, 1, 0, 0) = 1; leads(0, 0) = 0; leads(0, 1) = 0; leads(0, 2) = 0; leads(0, 3) = 0; leads(0, 4) = 0
                """);
    }

    private static void leadsWouldBeTooGreat() {
        Script.run("Promise 27: MUCH in ORDER 2, 3, i and j together", """
                weights(1, 1) = 12; poly(0) = 0; add(0, 1, 1073741824, 1073741823) = 1
                leads(0, 2) = 0; leads(0, 3) = 0; leads(0, 4) = 0; times(0, 0, 1) = 1
                leads(0, 0) = 0; leads(0, 1) = 0; leads(0, 2) = MUCH; leads(0, 3) = MUCH; leads(0, 4) = MUCH
                """);
        Script.run("Promise 27: MUCH in ORDER 4, U i and V j together", """
                weights(9, 1) = 12; poly(0) = 0; add(0, 1, 238609294, 0) = 1; leads(0, 4) = 0
                times(0, 0, 1) = 1; leads(0, 4) = 0; times(0, 0, 1) = 1; leads(0, 4) = MUCH; leads(0, 2) = 0; leads(0, 3) = 0
                weights(1, 9) = 91; leads(0, 4) = 0
                poly(0) = 1; add(0, 1, 1, 238609294) = 1; leads(0, 4) = 0; times(0, 1, 0) = 1; leads(0, 4) = MUCH
                """);
        Script.run("Promise 27: MUCH, though 32 bits of what is compared are small", """
                weights(9, 9) = 12; poly(0) = 0; add(0, 1, 477218589, 0) = 1; leads(0, 4) = MUCH
                poly(0) = 1; add(0, 1, 0, 477218589) = 1; leads(0, 4) = MUCH
                poly(0) = 1; add(0, 1, HIGHEST, HIGHEST) = 1; leads(0, 2) = MUCH; leads(0, 3) = MUCH; leads(0, 4) = MUCH
                weights(2, 2) = 99; poly(0) = 1; add(0, 1, 1073741824, 1073741824) = 1; leads(0, 4) = MUCH
                """);
        Script.run("Promise 27: of any TERM, not of the greatest alone", """
                poly(0) = 0; add(0, 1, HIGHEST, 0) = 1; add(0, 1, 3, 3) = 2; add(0, 1, 0, HIGHEST) = 3
                leads(0, 0) = 0; leads(0, 1) = 2; leads(0, 2) = 0; leads(0, 3) = 2; leads(0, 4) = MUCH
                weights(1, 1) = 12; leads(0, 4) = 0
                weights(2, 1) = 11; leads(0, 4) = MUCH
                add(0, 6, HIGHEST, 0) = 2; leads(0, 4) = 1
                """);
    }

    private static void leadsOfEight() {
        Script.run("Promise 27: the first and the last of eight", Script.EIGHT_TERMS + """
                leads(0, 0) = 0; leads(0, 1) = 0; leads(0, 2) = 0; leads(0, 3) = 0; leads(0, 4) = 0
                add(0, 6, 0, 0) = 7; add(0, 1, 0, 8) = 8
                leads(0, 0) = 0; leads(0, 1) = 7; leads(0, 2) = 7; leads(0, 3) = 7; leads(0, 4) = 7
                weights(9, 1) = 12; leads(0, 4) = 0
                """);
    }

    private static void reduceToEightAndNine() {
        for (int order = 0; order < 5; order++) {
            Script.run("Promise 28: FULL: nine TERMS, in order " + order, "system(3, 3) = 9; put(0, 0, 0, 1) = 0\n"
                    + SEVEN_STAIRS_AND_ONE + """
                    poly(1) = 0; plus(1, 0, 1) = 8
                    put(0, 1, 0, 1) = 0; reduce(0, ORDER) = FULL; term(0, 0, 1) = 3; size(0) = 8
                    put(0, 1, 0, 0) = 1; reduce(0, ORDER) = 8; term(0, 0, 1) = 2; term(0, 0, 2) = 2; term(0, 7, 0) = 6; term(0, 7, 1) = 0
                    put(0, 0, 0, 0) = 1; reduce(1, ORDER) = 7; reduce(0, ORDER) = 8
                    """.replace("ORDER", "" + order));
        }
    }

    private static void reduceAtTheEnds() {
        Script.run("Promise 28: BAD; NULL; CAST", """
                reduce(0, 0) = NULL; reduce(0, -1) = BAD; reduce(0, 5) = BAD; reduce(4, 0) = BAD; reduce(-1, 0) = BAD
                keepBase(0, 0) = 2; reduce(0, 0) = CAST; reduce(0, 5) = BAD; poly(0) = 2
                reduce(0, 0) = 0; reduce(0, 4) = 0; add(0, 3, 1, 1) = 1; reduce(0, LOWEST) = BAD; reduce(0, HIGHEST) = BAD
                reduce(0, 0) = 1; term(0, 0, 0) = 3
                """);
        Script.run("Promise 28: what is in THE IDEAL becomes a POLYNOMIAL without TERMS", """
                poly(0) = 0; add(0, 1, HIGHEST, 0) = 1; add(0, 1, 1, HIGHEST) = 2; reduce(0, 4) = 0; size(0) = 0; degree(0) = NONE
                add(0, 1, 1, 1) = 1
                """);
        Script.run("Promise 28: the TERMS are those of THE STAIRCASE in that ORDER, falling in ORDER 0", PLAIN + """
                poly(0) = 0; add(0, 1, 2, 0) = 1; add(0, 3, 0, 2) = 2
                reduce(0, 1) = 2; term(0, 0, 1) = 2; term(0, 0, 0) = 1; term(0, 1, 1) = 1; term(0, 1, 0) = 1
                reduce(0, 2) = 3; term(0, 0, 1) = 1; term(0, 0, 0) = 1; term(0, 1, 2) = 1; term(0, 1, 0) = 6; term(0, 2, 0) = 4
                reduce(0, 0) = 3; term(0, 0, 2) = 2; term(0, 0, 0) = 3; term(0, 1, 2) = 1; term(0, 1, 0) = 6; term(0, 2, 0) = 4
                """);
    }

    private static void belongsAtTheEnds() {
        Script.run("Promise 29: BAD; NULL; CAST", PLAIN + """
                belongs(0) = NULL; belongs(-1) = BAD; belongs(4) = BAD; belongs(LOWEST) = BAD; belongs(HIGHEST) = BAD
                keepBase(0, 0) = 2; belongs(0) = CAST; poly(0) = 2; belongs(0) = 1
                add(0, 1, 2, 0) = 1; add(0, 1, 0, 1) = 2; belongs(0) = 0; add(0, 3, 0, 0) = 3; belongs(0) = 1
                times(0, 2147483645, 2147483646) = 3; belongs(0) = 1; add(0, 1, 0, 0) = 4; belongs(0) = 0
                """);
    }

    private static void standsAtTheEnds() {
        Script.run("Promise 30: BAD; NULL; CAST: a POLYNOMIAL", """
                stands(0) = NULL; stands(-1) = BAD; stands(4) = BAD; stands(LOWEST) = BAD; stands(HIGHEST) = BAD
                poly(0) = 0; stands(0) = CAST; keepBase(0, 0) = 2; stands(0) = 1
                put(0, 0, 0, 1) = 0; stands(0) = 0; put(0, 0, 0, 0) = 1; stands(0) = 1
                put(1, 0, 0, 1) = 0; stands(0) = 0; drop(0) = 2; stands(0) = NULL
                """);
        Script.run("Promise 30: another D, though every number is 0", """
                system(1, 1) = 1; keepBase(0, 0) = 2; stands(0) = 1; system(1, 2) = 2; stands(0) = 0; system(2, 1) = 2; stands(0) = 0
                system(1, 1) = 1; stands(0) = 1; put(0, 0, 0, 1) = 0; stands(0) = 0
                system(2, 1) = 2; keepBase(1, 0) = 2; system(1, 2) = 2; stands(1) = 0; system(2, 1) = 2; stands(1) = 1
                """);
        Script.run("Promise 30: another F and G of the same ideal", """
                system(1, 2) = 2; put(0, 0, 0, 6) = 0; put(1, 1, 0, 1) = 0; keepBase(0, 2) = 2
                put(1, 1, 0, 0) = 1; stands(0) = 0; put(1, 0, 0, 1) = 0; stands(0) = 1
                """);
    }

    /** In order 4 by 1, 3 what leads is y and x to the 4, by 2, 1 it is x and y to the 4. */
    private static void standsByItsOrderAndWeights() {
        Script.run("Promise 30: in its ORDER, by its WEIGHTS", PLAIN + """
                keepBase(0, 0) = 2; keepBase(1, 1) = 2; weights(1, 3) = 12; keepBase(2, 4) = 2; weights(2, 1) = 13; keepBase(3, 4) = 2
                stands(0) = 1; stands(1) = 1; stands(2) = 1; stands(3) = 1
                weights(9, 9) = 21; stands(0) = 1; stands(1) = 1; stands(2) = 1; stands(3) = 1
                count(4) = 9; count(5) = 9; stair(4, 1, 1) = 1; stair(4, 2, 0) = 1
                put(0, 0, 0, 4) = 3; stands(0) = 0; stands(1) = 0; stands(2) = 0; stands(3) = 0
                put(0, 0, 0, 3) = 4; stands(0) = 1; stands(1) = 1; stands(2) = 1; stands(3) = 1
                """);
    }

    private static void keptOfWhat() {
        Script.run("Promise 31: its ORDER (what = 0), 10 times U and V (1)", """
                kept(0, 0) = NULL; kept(0, 1) = NULL; kept(0, 2) = BAD; kept(0, -1) = BAD; kept(-1, 0) = BAD; kept(4, 0) = BAD
                poly(0) = 0; kept(0, 0) = CAST; kept(0, 1) = CAST; kept(0, 2) = BAD
                keepBase(0, 0) = 2; kept(0, 0) = 0; kept(0, 1) = 12; kept(0, 2) = BAD; kept(0, LOWEST) = BAD; kept(0, HIGHEST) = BAD
                weights(9, 9) = 12; kept(0, 1) = 12; keepBase(3, 4) = 2; kept(3, 0) = 4; kept(3, 1) = 99
                weights(1, 1) = 99; keepBase(3, 2) = 2; kept(3, 0) = 2; kept(3, 1) = 11
                system(3, 3) = 9; field(97) = 7; kept(0, 0) = 0; kept(0, 1) = 12; kept(3, 1) = 11
                """);
    }
}
