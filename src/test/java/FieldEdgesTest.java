/** The edges that promises 1 to 8 name: a new object, field, system, put, get, weights, drift, count. */
public final class FieldEdgesTest {
    private static final String PRIMES =
            " 2 3 5 7 11 13 17 19 23 29 31 37 41 43 47 53 59 61 67 71 73 79 83 89 97 ";

    public static void main(String[] args) {
        newObject();
        fieldTakesPrimesOfTheRange();
        fieldAnswersWhatItWas();
        fieldLeavesCoefficientsOver();
        fieldIsSeenByWhatWasFoundBefore();
        systemOfOneToThree();
        systemBeginsAnew();
        putAnswersWhatItWas();
        putAndGetOfNoPolynomial();
        putAndGetBeyondThePower();
        weightsOfOneToNine();
        driftOfSeeds();
        driftPassesOver31Bits();
        countOfEach();
        countOfSlots();
        Due.end();
    }

    private static void newObject() {
        Script.run("Promise 1: the field of 7, x and y squared, empty SLOTS", """
                count(0) = 7; count(1) = 2; count(2) = 2; count(3) = 4; count(4) = 1; count(5) = 2
                count(9) = 0; count(10) = 0; goBack(0) = NOT; goBack(1) = NOT
                get(0, 0, 0) = 0; get(0, 1, 0) = 0; get(0, 0, 1) = 0; get(1, 0, 0) = 0; get(1, 1, 0) = 0; get(1, 0, 1) = 0
                size(0) = NULL; size(1) = NULL; size(2) = NULL; size(3) = NULL
                least(0, -1) = 2; least(0, 1) = 0; least(0, 0) = 0; least(1, -1) = 2; least(1, 1) = 0; least(1, 0) = 0
                """);
        OrderMover one = new OrderMover();
        one.field(2);
        one.system(1, 1);
        one.poly(0);
        one.image(0);
        OrderMover other = new OrderMover();
        for (int part = 0; part < State.PARTS; part++) {
            Due.holds("no object has a share in another", State.part(other, part).equals(State.part(new OrderMover(), part)));
        }
    }

    private static void fieldTakesPrimesOfTheRange() {
        for (int p = -3; p <= 104; p++) {
            boolean prime = PRIMES.contains(" " + p + " ");
            Script.run("Promise 2: a prime of 2 .. 97", "put(0, 0, 0, 6) = 0; field(" + p + ") = " + (prime ? "7" : "BAD")
                    + "; count(0) = " + (prime ? p : 7) + "; get(0, 0, 0) = " + (prime ? 6 % p : 6));
        }
        Script.run("Promise 2: BAD: no prime of 2 .. 97", """
                field(LOWEST) = BAD; field(HIGHEST) = BAD; field(-7) = BAD; field(-2) = BAD; field(10007) = BAD
                field(65539) = BAD; field(2147483629) = BAD; count(0) = 7
                """);
    }

    private static void fieldAnswersWhatItWas() {
        Script.run("Promise 2: what p was", """
                field(7) = 7; field(2) = 7; field(97) = 2; field(98) = BAD; field(97) = 97; field(1) = BAD; field(3) = 97
                count(0) = 3
                """);
    }

    private static void fieldLeavesCoefficientsOver() {
        Script.run("Promise 2: COEFFICIENTS are left over by it", """
                field(97) = 7; system(3, 3) = 9
                put(0, 0, 0, 96) = 0; put(0, 2, 0, 95) = 0; put(0, 0, 2, 5) = 0; put(1, 1, 1, 4) = 0; put(1, 0, 2, 94) = 0
                field(5) = 97
                get(0, 0, 0) = 1; get(0, 2, 0) = 0; get(0, 0, 2) = 0; get(1, 1, 1) = 4; get(1, 0, 2) = 4; get(1, 0, 0) = 0
                field(97) = 5
                get(0, 0, 0) = 1; get(0, 2, 0) = 0; get(0, 0, 2) = 0; get(1, 1, 1) = 4; get(1, 0, 2) = 4
                """);
        Script.run("Promise 2: A, B, WEIGHTS stay", """
                system(3, 1) = 3; weights(9, 1) = 12; field(2) = 7
                count(1) = 3; count(2) = 1; count(3) = 3; count(4) = 9; count(5) = 1
                """);
    }

    /** What was found for one setting must not answer for another, whichever call changes it. */
    private static void fieldIsSeenByWhatWasFoundBefore() {
        Script.run("what was found before is found anew", """
                put(0, 0, 0, 6) = 0; put(1, 0, 0, 6) = 0
                normal(2, 2, 0, 0) = 1; count(8) = 4; count(7) = 1; least(0, 0) = 6; root(3, 0) = 6
                field(5) = 7
                normal(2, 2, 0, 0) = 4; count(8) = 4; root(3, 0) = 3; least(0, 0) = 1
                put(0, 0, 0, 3) = 1
                normal(2, 2, 0, 0) = 2; count(8) = 0; least(0, 0) = 3; root(0, 0) = NONE
                image(0) = 4
                system(1, 2) = 2
                normal(2, 1, 0, 0) = 0; normal(2, 0, 0, 2) = BAD; count(8) = 1; least(0, -1) = 1; least(1, 0) = 0
                drift(1) = 2
                normal(2, 1, 0, 0) = 3; tail(2, 0, 0) = 2; least(0, 0) = 2
                goBack(0) = 4
                normal(2, 2, 0, 0) = 2; count(8) = 0; least(0, 0) = 3
                stair(4, 1, 0) = 1; weights(2, 1) = 12; stair(4, 1, 0) = 0
                """);
    }

    private static void systemOfOneToThree() {
        for (int a = 1; a <= 3; a++) {
            for (int b = 1; b <= 3; b++) {
                Script.run("Promise 3: A, B 1 .. 3", "system(" + a + ", " + b + ") = " + a * b + "; count(1) = " + a
                        + "; count(2) = " + b + "; count(3) = " + a * b);
            }
        }
        Script.run("Promise 3: BAD", """
                put(0, 1, 0, 3) = 0; put(1, 0, 1, 4) = 0
                system(0, 1) = BAD; system(1, 0) = BAD; system(4, 1) = BAD; system(1, 4) = BAD; system(0, 0) = BAD
                system(4, 4) = BAD; system(-1, 2) = BAD; system(2, -1) = BAD; system(-1, -1) = BAD; system(LOWEST, 1) = BAD
                system(1, LOWEST) = BAD; system(HIGHEST, 1) = BAD; system(1, HIGHEST) = BAD; system(65537, 65537) = BAD
                get(0, 1, 0) = 3; get(1, 0, 1) = 4; count(3) = 4
                """);
    }

    private static void systemBeginsAnew() {
        Script.run("Promise 3: all COEFFICIENTS 0", """
                system(3, 3) = 9; drift(1) = 9
                system(3, 3) = 9
                get(0, 0, 0) = 0; get(0, 1, 0) = 0; get(0, 2, 0) = 0; get(0, 0, 1) = 0; get(0, 1, 1) = 0; get(0, 0, 2) = 0
                get(1, 0, 0) = 0; get(1, 1, 0) = 0; get(1, 2, 0) = 0; get(1, 0, 1) = 0; get(1, 1, 1) = 0; get(1, 0, 2) = 0
                drift(1) = 9; system(1, 1) = 1; get(0, 0, 0) = 0; get(1, 0, 0) = 0
                system(3, 3) = 9; get(0, 2, 0) = 0; get(0, 0, 2) = 0; get(1, 2, 0) = 0; get(1, 0, 2) = 0; get(1, 1, 1) = 0
                """);
        Script.run("Promise 3: THE FIELD, WEIGHTS, SLOTS stay", """
                field(97) = 7; weights(3, 4) = 12; poly(0) = 0; add(0, 96, 2, 2) = 1; keepBase(3, 4) = 2
                system(1, 3) = 3
                count(0) = 97; count(4) = 3; count(5) = 4; term(0, 0, 0) = 96; kept(3, 0) = 4; kept(3, 1) = 34
                """);
    }

    private static void putAnswersWhatItWas() {
        Script.run("Promise 4: what it was", """
                put(0, 0, 0, 6) = 0; put(0, 0, 0, 0) = 6; put(0, 0, 0, 1) = 0; put(0, 0, 0, 1) = 1; put(0, 0, 0, 7) = BAD
                put(0, 0, 0, 2) = 1; put(1, 0, 0, 3) = 0; put(0, 1, 0, 4) = 0; put(0, 0, 1, 5) = 0
                get(0, 0, 0) = 2; get(1, 0, 0) = 3; get(0, 1, 0) = 4; get(0, 0, 1) = 5; get(1, 1, 0) = 0; get(1, 0, 1) = 0
                """);
    }

    private static void putAndGetOfNoPolynomial() {
        Script.run("Promises 4, 5: F (of = 0), G (1)", """
                put(-1, 0, 0, 1) = BAD; put(2, 0, 0, 1) = BAD; put(LOWEST, 0, 0, 1) = BAD; put(HIGHEST, 0, 0, 1) = BAD
                get(-1, 0, 0) = BAD; get(2, 0, 0) = BAD; get(LOWEST, 0, 0) = BAD; get(HIGHEST, 0, 0) = BAD
                put(0, 0, 0, 1) = 0; put(1, 0, 0, 1) = 0; get(0, 0, 0) = 1; get(1, 0, 0) = 1
                """);
    }

    private static void putAndGetBeyondThePower() {
        Script.run("Promises 4, 5: BAD: also i, j together not less than A, B", """
                system(3, 1) = 3
                put(0, 2, 0, 1) = 0; put(0, 1, 1, 2) = 0; put(0, 0, 2, 3) = 0; put(1, 0, 0, 4) = 0
                put(0, 3, 0, 1) = BAD; put(0, 2, 1, 1) = BAD; put(0, 1, 2, 1) = BAD; put(0, 0, 3, 1) = BAD
                put(1, 1, 0, 1) = BAD; put(1, 0, 1, 1) = BAD
                get(0, 3, 0) = BAD; get(0, 2, 1) = BAD; get(0, 1, 2) = BAD; get(0, 0, 3) = BAD
                get(1, 1, 0) = BAD; get(1, 0, 1) = BAD
                get(0, 2, 0) = 1; get(0, 1, 1) = 2; get(0, 0, 2) = 3; get(1, 0, 0) = 4
                """);
        Script.run("Promises 4, 5: i, j whose sum passes over 31 bits, or is small though one is below 0", """
                system(3, 3) = 9
                put(0, HIGHEST, HIGHEST, 1) = BAD; put(0, HIGHEST, 1, 1) = BAD; put(1, 1, HIGHEST, 1) = BAD
                put(0, LOWEST, LOWEST, 1) = BAD; put(0, LOWEST, HIGHEST, 1) = BAD; put(1, HIGHEST, LOWEST, 1) = BAD
                put(0, -1, 1, 1) = BAD; put(0, 1, -1, 1) = BAD; put(1, -1, 0, 1) = BAD; put(1, 0, -1, 1) = BAD
                put(0, -1, 3, 1) = BAD; put(1, 3, -1, 1) = BAD; put(0, -1, -1, 1) = BAD
                get(0, HIGHEST, HIGHEST) = BAD; get(0, HIGHEST, 1) = BAD; get(1, 1, HIGHEST) = BAD
                get(0, LOWEST, LOWEST) = BAD; get(0, LOWEST, HIGHEST) = BAD; get(1, HIGHEST, LOWEST) = BAD
                get(0, -1, 1) = BAD; get(0, 1, -1) = BAD; get(1, -1, 0) = BAD; get(1, 0, -1) = BAD
                get(0, -1, 3) = BAD; get(1, 3, -1) = BAD; get(0, -1, -1) = BAD
                """);
    }

    private static void weightsOfOneToNine() {
        Script.run("Promise 6: 10 times what U was and V", """
                weights(9, 9) = 12; weights(1, 1) = 99; weights(9, 1) = 11; weights(1, 9) = 91; weights(1, 2) = 19
                count(4) = 1; count(5) = 2
                """);
        Script.run("Promise 6: BAD", """
                weights(3, 4) = 12
                weights(0, 1) = BAD; weights(1, 0) = BAD; weights(10, 1) = BAD; weights(1, 10) = BAD; weights(0, 10) = BAD
                weights(-1, 5) = BAD; weights(5, -1) = BAD; weights(LOWEST, 5) = BAD; weights(5, LOWEST) = BAD
                weights(HIGHEST, 5) = BAD; weights(5, HIGHEST) = BAD
                count(4) = 3; count(5) = 4; weights(3, 4) = 34
                """);
    }

    /** By 97: 16807 leaves 26, 282475249 94, 1622650073 26, 984943658 32. */
    private static void driftOfSeeds() {
        Script.run("Promise 7: a SEED 1 .. 999999", """
                field(97) = 7; put(0, 0, 0, 96) = 0
                drift(0) = BAD; drift(-1) = BAD; drift(1000000) = BAD; drift(LOWEST) = BAD; drift(HIGHEST) = BAD
                get(0, 0, 0) = 96; get(1, 0, 1) = 0
                system(1, 2) = 2
                drift(1) = 2; get(0, 0, 0) = 26; get(1, 0, 0) = 94; get(1, 1, 0) = 26; get(1, 0, 1) = 32
                drift(1) = 2; get(0, 0, 0) = 26; get(1, 0, 1) = 32
                drift(999999) = 2
                """);
    }

    /** Already the second product needs more than 31 bits, the one of 999999 the first. */
    private static void driftPassesOver31Bits() {
        long first = 999999L * 16807 % 2147483647;
        long second = first * 16807 % 2147483647;
        Script.run("Promise 7: (X times 16807) by 2147483647", "field(89) = 7; system(1, 1) = 1; drift(999999) = 1; get(0, 0, 0) = "
                + first % 89 + "; get(1, 0, 0) = " + second % 89);
        Script.run("Promise 7: each COEFFICIENT is another, also where it was not 0", """
                field(2) = 7; put(0, 0, 0, 1) = 0; put(0, 1, 0, 1) = 0; put(0, 0, 1, 1) = 0; put(1, 0, 0, 1) = 0
                put(1, 1, 0, 1) = 0; put(1, 0, 1, 1) = 0
                drift(1) = 4
                get(0, 0, 0) = 1; get(0, 1, 0) = 1; get(0, 0, 1) = 1; get(1, 0, 0) = 0; get(1, 1, 0) = 0; get(1, 0, 1) = 0
                """);
    }

    private static void countOfEach() {
        Script.run("Promise 8: 0 p .. 5 V, as they are at the ends of their bounds", """
                field(2) = 7; system(1, 3) = 3; weights(1, 9) = 12
                count(0) = 2; count(1) = 1; count(2) = 3; count(3) = 3; count(4) = 1; count(5) = 9; count(6) = 1; count(7) = 0
                field(97) = 2; system(3, 3) = 9; weights(9, 1) = 19
                count(0) = 97; count(1) = 3; count(2) = 3; count(3) = 9; count(4) = 9; count(5) = 1; count(6) = 0; count(7) = 0
                count(8) = 1
                """);
        Script.run("Promise 8: BAD", """
                count(-1) = BAD; count(0) = 7; count(10) = 0; count(11) = BAD; count(LOWEST) = BAD; count(HIGHEST) = BAD
                """);
    }

    private static void countOfSlots() {
        Script.run("Promise 8: 9 SLOTS that hold a POLYNOMIAL, 10 a BASE: none to all", """
                count(9) = 0; count(10) = 0
                poly(0) = 0; poly(1) = 0; poly(2) = 0; count(9) = 3; poly(3) = 0; count(9) = 4; count(10) = 0
                poly(3) = 1; count(9) = 4; poly(4) = BAD; count(9) = 4
                keepBase(0, 0) = 2; count(9) = 3; count(10) = 1; keepBase(4, 0) = BAD; keepBase(1, 5) = BAD; count(9) = 3
                keepBase(1, 1) = 2; keepBase(2, 2) = 2; keepBase(3, 3) = 2; count(9) = 0; count(10) = 4
                drop(0) = 2; count(10) = 3; drop(0) = 0; count(10) = 3; poly(1) = 2; count(9) = 1; count(10) = 2
                """);
    }
}
