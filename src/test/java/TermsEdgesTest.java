/** The edges that the document's 'Terms' name: the answers and their order, and the bounds of all that is told there. */
public final class TermsEdgesTest {
    public static void main(String[] args) {
        calls512();
        badComesFirst();
        badAheadOfWhatIsFound();
        foundInOrder();
        fullComesLast();
        numbersOfTheField();
        sumsAndProductsAreLeftOver();
        termsReachTheHighest();
        coefficientsOfTheSystem();
        ordersBreakTies();
        staircaseAndMembers();
        leastEndsWithOne();
        plainShape();
        radical();
        rootsRise();
        slotsAreFour();
        polynomialsOfNoneToEight();
        polynomialsInAnotherField();
        basesInAnotherField();
        Due.end();
    }

    /** "An object is used for at most 512 calls after it has been made": the 512th is answered as the first. */
    private static void calls512() {
        OrderMover x = new OrderMover();
        x.system(3, 3);
        for (int call = 2; call <= 510; call++) {
            Due.due("call " + call, x.put(call % 2, 1, 1, call % 7), call < 4 ? 0 : (call - 2) % 7);
        }
        Due.due("call 511", x.goBack(1), -2);
        Due.due("call 512", x.put(0, 1, 1, 0), 510 % 7);
    }

    private static void badComesFirst() {
        Script.run("BAD ahead of NOT", "goBack(2) = BAD; goBack(-1) = BAD; goBack(0) = NOT; goBack(1) = NOT");
        Script.run("BAD ahead of FULL", Script.EIGHT_TERMS + """
                poly(1) = 0; add(1, 1, 8, 8) = 1
                add(0, 7, 8, 8) = BAD; add(0, -1, 8, 8) = BAD; add(0, 1, -1, 8) = BAD; add(0, 1, 8, -1) = BAD
                add(0, 1, 8, 8) = FULL
                plus(0, 1, 7) = BAD; plus(0, 1, -1) = BAD
                plus(0, 1, 1) = FULL
                """);
        Script.run("BAD ahead of NONE", """
                root(1, 2) = BAD; root(1, -1) = BAD; root(1, 1) = NONE
                place(5, 2, 0) = BAD; place(-1, 2, 0) = BAD; place(0, 2, -1) = BAD; place(0, -1, 2) = BAD
                place(0, 2, 0) = NONE
                poly(0) = 0
                term(0, 0, 3) = BAD; term(0, 0, -1) = BAD; term(0, 0, 2) = NONE
                leads(0, 5) = BAD; leads(0, -1) = BAD; leads(0, 4) = NONE
                """);
    }

    private static void badAheadOfWhatIsFound() {
        String wrong = """
                add(2, 7, 0, 0) = BAD; add(2, -1, 0, 0) = BAD; add(2, 1, -1, 0) = BAD; add(2, 1, 0, -1) = BAD
                term(2, -1, 0) = BAD; term(2, 0, -1) = BAD; term(2, 0, 3) = BAD
                times(2, -1, 0) = BAD; times(2, 0, -1) = BAD
                plus(2, 2, 7) = BAD; plus(2, 2, -1) = BAD; plus(2, 4, 1) = BAD; plus(4, 2, 1) = BAD
                plus(2, -1, 1) = BAD; plus(-1, 2, 1) = BAD
                leads(2, -1) = BAD; leads(2, 5) = BAD; reduce(2, -1) = BAD; reduce(2, 5) = BAD
                kept(2, -1) = BAD; kept(2, 2) = BAD
                """;
        Script.run("BAD ahead of NULL", wrong);
        Script.run("BAD ahead of CAST", "keepBase(2, 0) = 2\n" + wrong);
        Script.run("BAD ahead of CAST in kept", "poly(2) = 0; kept(2, -1) = BAD; kept(2, 2) = BAD; kept(2, 1) = CAST");
        Script.run("BAD ahead of MUCH", """
                poly(2) = 0; add(2, 1, HIGHEST, HIGHEST) = 1
                times(2, -1, HIGHEST) = BAD; times(2, HIGHEST, -1) = BAD; times(2, 1, 0) = MUCH; times(2, 0, 1) = MUCH
                leads(2, 5) = BAD; leads(2, -1) = BAD; leads(2, 2) = MUCH
                """);
    }

    private static void foundInOrder() {
        Script.run("NULL ahead of CAST", """
                keepBase(0, 0) = 2
                plus(0, 1, 1) = NULL; plus(1, 0, 1) = NULL
                plus(0, 1, 0) = NULL; plus(1, 0, 0) = NULL
                poly(1) = 0
                plus(0, 1, 1) = CAST; plus(1, 0, 1) = CAST
                plus(0, 0, 1) = CAST; plus(2, 2, 1) = NULL
                """);
        Script.run("NULL, CAST ahead of MUCH", """
                times(0, HIGHEST, HIGHEST) = NULL; degree(0) = NULL; leads(0, 4) = NULL
                poly(0) = 0; add(0, 1, HIGHEST, HIGHEST) = 1
                times(0, HIGHEST, HIGHEST) = MUCH; degree(0) = MUCH; leads(0, 4) = MUCH
                keepBase(0, 4) = 2
                times(0, HIGHEST, HIGHEST) = CAST; degree(0) = CAST; leads(0, 4) = CAST
                drop(0) = 2
                times(0, HIGHEST, HIGHEST) = NULL; degree(0) = NULL; leads(0, 4) = NULL
                """);
        Script.run("what a slot lacks is found ahead of how many it has", """
                term(0, 0, 0) = NULL; term(0, HIGHEST, 2) = NULL
                keepBase(0, 1) = 2
                term(0, 0, 0) = CAST; term(0, HIGHEST, 2) = CAST
                poly(0) = 2
                term(0, 0, 0) = NONE; term(0, HIGHEST, 2) = NONE
                """);
    }

    private static void fullComesLast() {
        Script.run("FULL behind NULL, CAST", Script.EIGHT_TERMS + """
                plus(0, 1, 1) = NULL
                keepBase(1, 0) = 2
                plus(0, 1, 1) = CAST
                poly(1) = 2; add(1, 1, 0, 8) = 1
                plus(0, 1, 1) = FULL
                drop(0) = 1
                add(0, 1, 0, 8) = NULL
                keepBase(0, 0) = 2
                add(0, 1, 0, 8) = CAST
                """);
    }

    private static void numbersOfTheField() {
        for (int p : new int[] {2, 3, 7, 89, 97}) {
            int most = p - 1;
            Script.run("numbers 0 .. p less 1, p is " + p, "field(" + p + ") = 7\n" + """
                    put(0, 0, 0, MOST) = 0; put(0, 0, 0, P) = BAD; put(0, 0, 0, -1) = BAD; get(0, 0, 0) = MOST
                    put(0, 0, 0, HIGHEST) = BAD; put(0, 0, 0, LOWEST) = BAD; put(0, 0, 0, 0) = MOST
                    put(1, 0, 1, MOST) = 0; put(1, 0, 1, P) = BAD; put(1, 0, 1, -1) = BAD; get(1, 0, 1) = MOST
                    poly(0) = 0
                    add(0, P, 0, 0) = BAD; add(0, -1, 0, 0) = BAD; add(0, HIGHEST, 0, 0) = BAD; add(0, LOWEST, 0, 0) = BAD
                    size(0) = 0; add(0, MOST, 0, 0) = 1; term(0, 0, 0) = MOST; add(0, 0, 1, 0) = 1
                    poly(1) = 0
                    plus(1, 0, P) = BAD; plus(1, 0, -1) = BAD; plus(1, 0, HIGHEST) = BAD; plus(1, 0, LOWEST) = BAD
                    size(1) = 0; plus(1, 0, MOST) = 1; term(1, 0, 0) = 1; plus(1, 0, 0) = 1
                    """.replace("MOST", "" + most).replace("P)", p + ")").replace("P,", p + ","));
        }
    }

    private static void sumsAndProductsAreLeftOver() {
        Script.run("sums left over by 97", """
                field(97) = 7; poly(0) = 0
                add(0, 96, 1, 0) = 1; add(0, 96, 1, 0) = 1; term(0, 0, 0) = 95
                add(0, 1, 1, 0) = 1; term(0, 0, 0) = 96
                add(0, 1, 1, 0) = 0; size(0) = 0
                """);
        Script.run("products left over by 97", """
                field(97) = 7; poly(0) = 0; poly(1) = 0
                add(0, 96, 1, 0) = 1; plus(1, 0, 96) = 1; term(1, 0, 0) = 1
                plus(1, 1, 95) = 1; term(1, 0, 0) = 96
                plus(1, 1, 96) = 0
                """);
        Script.run("x is 96, less 1, by 97", """
                field(97) = 7; system(1, 1) = 1; put(0, 0, 0, 1) = 0
                normal(0, 1, 0, 0) = 96; normal(0, 2, 0, 0) = 1; normal(0, HIGHEST, 0, 0) = 96; normal(0, 2147483646, 0, 0) = 1
                table(2, 0, 0, 0) = 96; root(0, 0) = 96; root(0, 1) = 0; tail(0, 1, 0) = 1
                """);
        Script.run("by 2 all that comes twice goes", """
                field(2) = 7; poly(0) = 0; add(0, 1, 5, 5) = 1; add(0, 1, 5, 5) = 0
                add(0, 1, 5, 5) = 1; plus(0, 0, 1) = 0; plus(0, 0, 1) = 0
                """);
    }

    private static void termsReachTheHighest() {
        Script.run("A TERM: i, j 0 .. 2147483647", """
                put(0, 0, 0, 6) = 0; put(1, 0, 0, 6) = 0
                normal(2, HIGHEST, HIGHEST, 3) = 1; normal(2, HIGHEST, HIGHEST, 0) = 0
                normal(2, 2147483646, HIGHEST, 1) = 1; normal(2, HIGHEST, 2147483646, 2) = 1
                normal(2, 0, 0, 0) = 1; normal(2, -1, 0, 0) = BAD; normal(2, 0, -1, 0) = BAD
                normal(2, LOWEST, 0, 0) = BAD; normal(2, 0, LOWEST, 0) = BAD
                place(2, HIGHEST, HIGHEST) = NONE; place(2, 0, HIGHEST) = NONE; place(2, HIGHEST, 0) = NONE
                place(2, 0, 0) = 0; place(2, -1, 0) = BAD; place(2, 0, -1) = BAD
                place(2, LOWEST, 0) = BAD; place(2, 0, LOWEST) = BAD
                poly(0) = 0
                add(0, 1, -1, 0) = BAD; add(0, 1, 0, -1) = BAD; add(0, 1, LOWEST, 0) = BAD; add(0, 1, 0, LOWEST) = BAD
                add(0, 1, HIGHEST, HIGHEST) = 1; add(0, 6, 1, 1) = 2
                belongs(0) = 1; term(0, 0, 1) = HIGHEST; term(0, 0, 2) = HIGHEST
                reduce(0, 2) = 0
                times(0, -1, 0) = BAD; times(0, 0, -1) = BAD; times(0, LOWEST, 0) = BAD; times(0, 0, LOWEST) = BAD
                add(0, 1, 0, 0) = 1; times(0, HIGHEST, HIGHEST) = 1; term(0, 0, 1) = HIGHEST; term(0, 0, 2) = HIGHEST
                """);
    }

    /** "for all i and j together less than A, a COEFFICIENT (0 at first) .. likewise for i and j together less than B". */
    private static void coefficientsOfTheSystem() {
        for (int a = 1; a <= 3; a++) {
            for (int b = 1; b <= 3; b++) {
                StringBuilder rows = new StringBuilder("system(" + a + ", " + b + ") = " + a * b + "\n");
                for (int of = 0; of < 2; of++) {
                    for (int i = -1; i <= 3; i++) {
                        for (int j = -1; j <= 3; j++) {
                            boolean there = i >= 0 && j >= 0 && i + j < (of == 0 ? a : b);
                            String at = "(" + of + ", " + i + ", " + j;
                            rows.append("get").append(at).append(there ? ") = 0\n" : ") = BAD\n");
                            rows.append("put").append(at).append(there ? ", 6) = 0\n" : ", 6) = BAD\n");
                            rows.append("get").append(at).append(there ? ") = 6\n" : ") = BAD\n");
                        }
                    }
                }
                Script.run("COEFFICIENTS of " + a + ", " + b, rows.toString());
            }
        }
    }

    private static void ordersBreakTies() {
        Script.run("0: the greater i is the greater, if alike the greater j", """
                poly(0) = 0; add(0, 1, 2, 1) = 1; add(0, 1, 1, HIGHEST) = 2; leads(0, 0) = 0
                add(0, 1, 2, 2) = 3; leads(0, 0) = 0; term(0, 0, 2) = 2
                """);
        Script.run("1: likewise j first, then i", """
                poly(0) = 0; add(0, 1, 1, 2) = 1; add(0, 1, HIGHEST, 1) = 2; leads(0, 1) = 1
                add(0, 1, 2, 2) = 3; leads(0, 1) = 1; term(0, 1, 1) = 2
                """);
        Script.run("2: the greater i and j together, then the greater i", """
                poly(0) = 0; add(0, 1, 5, 0) = 1; add(0, 1, 2, 4) = 2; leads(0, 2) = 1
                add(0, 1, 3, 3) = 3; leads(0, 2) = 1; add(0, 1, 1, 5) = 4; leads(0, 2) = 1
                """);
        Script.run("3: likewise, then the greater j", """
                poly(0) = 0; add(0, 1, 0, 5) = 1; add(0, 1, 4, 2) = 2; leads(0, 3) = 0
                add(0, 1, 3, 3) = 3; leads(0, 3) = 1; add(0, 1, 5, 1) = 4; leads(0, 3) = 2
                """);
        Script.run("4: the greater U i and V j together, then the greater i (1, 2 at first)", """
                poly(0) = 0; add(0, 1, 4, 0) = 1; add(0, 1, 0, 2) = 2; leads(0, 4) = 0
                add(0, 1, 1, 2) = 3; leads(0, 4) = 1
                weights(9, 9) = 12; leads(0, 4) = 0
                weights(1, 9) = 99; leads(0, 4) = 1
                weights(9, 1) = 19; leads(0, 4) = 0
                """);
        Script.run("the staircase rises by the same orders", """
                system(2, 3) = 6
                stair(0, 1, 1) = 1; stair(0, 3, 0) = 1; stair(0, 3, 1) = 0
                stair(1, 1, 0) = 1; stair(1, 2, 0) = 0; stair(1, 2, 1) = 1
                stair(2, 1, 1) = 1; stair(2, 2, 0) = 1; stair(2, 3, 1) = 2; stair(2, 4, 0) = 1
                stair(3, 1, 0) = 1; stair(3, 2, 1) = 1; stair(3, 3, 0) = 1; stair(3, 4, 1) = 2
                stair(4, 1, 0) = 1; stair(4, 2, 1) = 1; stair(4, 3, 0) = 1; stair(4, 4, 1) = 2
                weights(2, 1) = 12; stair(4, 1, 1) = 1; stair(4, 2, 1) = 2; stair(4, 3, 0) = 1
                """);
    }

    private static void staircaseAndMembers() {
        Script.run("STAIRCASE: the D TERMS that do not LEAD: one at the least", """
                system(1, 1) = 1; put(0, 0, 0, 3) = 0; put(1, 0, 0, 4) = 0
                place(0, 0, 0) = 0; place(0, 1, 0) = NONE; place(0, 0, 1) = NONE
                stair(0, 0, 0) = 0; stair(0, 0, 1) = 0; stair(0, 1, 0) = BAD
                base(0, 0) = 2; base(0, 1) = 1; base(0, 2) = 0
                member(0, 0, 0) = 0; member(0, 0, 1) = 1; member(0, 1, 0) = 1; member(0, 1, 1) = 0
                member(1, 0, 0) = 1; member(1, 1, 1) = 1
                """);
        Script.run("STAIRCASE: nine at the most", """
                field(97) = 7; system(3, 3) = 9; drift(5) = 9
                stair(0, 8, 1) = 8; stair(0, 9, 1) = BAD; place(0, 0, 8) = 8; place(0, 0, 9) = NONE
                base(0, 1) = 9; base(0, 2) = 8; base(2, 1) = 3; base(2, 2) = 4
                """);
        Script.run("MEMBERS: TERMS that LEAD, but no part of them does", """
                system(2, 3) = 6; put(1, 1, 1, 1) = 0
                base(0, 0) = 3; place(0, 2, 0) = NONE; place(0, 1, 1) = NONE; place(0, 0, 5) = NONE
                place(0, 1, 0) = 5; place(0, 0, 4) = 4
                member(0, 0, 1) = 5; member(0, 1, 0) = 1; member(0, 1, 1) = 1; member(0, 2, 0) = 2; member(0, 3, 0) = BAD
                base(1, 0) = 2; place(1, 1, 1) = 3; member(1, 2, 0) = BAD
                """);
    }

    private static void leastEndsWithOne() {
        Script.run("LEAST: of the least degree, its highest number 1", """
                field(97) = 7; system(1, 1) = 1; put(0, 0, 0, 96) = 0
                least(0, -1) = 1; least(0, 0) = 96; least(0, 1) = 1; least(0, 2) = BAD; least(0, -2) = BAD
                system(3, 3) = 9
                least(0, -1) = 3; least(0, 3) = 1; least(0, 4) = BAD; least(1, -1) = 3; least(1, 3) = 1; least(1, 4) = BAD
                drift(5) = 9
                least(1, -1) = 9; least(1, 9) = 1; least(1, 10) = BAD; least(0, -1) = 9; least(0, 9) = 1; least(0, 10) = BAD
                """);
    }

    private static void plainShape() {
        Script.run("PLAIN: two MEMBERS, and powers of y alone", """
                count(6) = 0
                put(1, 1, 0, 1) = 0; count(6) = 1
                put(1, 1, 0, 0) = 1; put(0, 0, 1, 1) = 0; count(6) = 0
                system(2, 3) = 6; put(1, 1, 1, 1) = 0; base(0, 0) = 3; count(6) = 0
                put(1, 1, 0, 1) = 0; base(0, 0) = 2; count(6) = 1
                system(2, 1) = 2; base(0, 0) = 2; count(6) = 0
                system(1, 1) = 1; count(6) = 1
                system(1, 3) = 3; count(6) = 1
                """);
        Script.run("PLAIN: in ORDER 0, whatever the MEMBERS are in another", """
                system(3, 2) = 6; put(0, 1, 1, 1) = 0; put(1, 1, 0, 1) = 0; base(0, 0) = 2; base(1, 0) = 3; count(6) = 1
                system(2, 3) = 6; put(1, 1, 1, 1) = 0; put(0, 0, 1, 1) = 0; base(0, 0) = 3; base(1, 0) = 2; count(6) = 0
                """);
    }

    private static void radical() {
        Script.run("RADICAL: LEAST of x and of y have no factor twice", """
                count(7) = 0
                put(0, 0, 0, 6) = 0; count(7) = 0
                put(1, 0, 0, 6) = 0; count(7) = 1
                put(0, 0, 0, 0) = 6; count(7) = 0
                put(0, 0, 0, 1) = 0; count(7) = 1; count(8) = 0
                system(1, 1) = 1; count(7) = 1
                """);
        Script.run("RADICAL: one factor twice beside others that come once, by 7", """
                system(3, 1) = 3
                put(0, 2, 0, 3) = 0; put(0, 1, 0, 5) = 0; put(0, 0, 0, 5) = 0; count(8) = 2; count(7) = 0
                put(0, 2, 0, 0) = 3; put(0, 1, 0, 0) = 5; put(0, 0, 0, 6) = 5; count(8) = 3; count(7) = 1
                put(0, 1, 0, 6) = 0; put(0, 0, 0, 0) = 6; count(8) = 3; count(7) = 1
                put(0, 2, 0, 6) = 0; put(0, 1, 0, 0) = 6; count(8) = 2; count(7) = 0
                put(0, 2, 0, 0) = 6; count(8) = 1; count(7) = 0
                put(0, 0, 0, 2) = 0; count(8) = 0; count(7) = 1
                """);
        Script.run("RADICAL: y y + 1, which has no root by 7, twice and once", """
                put(1, 1, 0, 1) = 0; put(1, 0, 0, 1) = 0
                least(1, -1) = 4; least(1, 0) = 1; least(1, 1) = 0; least(1, 2) = 2; least(1, 3) = 0; count(8) = 0; count(7) = 0
                system(1, 2) = 2; put(1, 0, 0, 1) = 0; least(1, -1) = 2; count(8) = 0; count(7) = 1
                """);
        Script.run("RADICAL: a power of p is a factor as often, though it has no slope", """
                field(3) = 7; system(3, 1) = 3
                put(0, 0, 0, 1) = 0; count(7) = 0
                put(0, 1, 0, 2) = 0; count(7) = 1
                field(2) = 3; system(2, 1) = 2
                put(0, 0, 0, 1) = 0; count(7) = 0
                put(0, 1, 0, 1) = 0; count(7) = 1; count(8) = 0
                """);
        Script.run("RADICAL: the slope of x x x, 3 x x, is no part of the next, 2 x + 2: else both have the root 1", """
                system(3, 1) = 3; count(7) = 0
                system(2, 1) = 2; put(0, 1, 0, 2) = 0; put(0, 0, 0, 4) = 0; count(8) = 2; root(0, 0) = 1; count(7) = 1
                """);
    }

    private static void rootsRise() {
        Script.run("ROOTS: x rising, then y; none, and nine", """
                put(0, 0, 0, 1) = 0; count(8) = 0; root(0, 0) = NONE; root(0, 1) = NONE
                system(3, 3) = 9; put(0, 0, 0, 1) = 0; put(1, 0, 0, 1) = 0; count(8) = 9
                root(0, 0) = 3; root(0, 1) = 3; root(1, 0) = 3; root(1, 1) = 5; root(2, 1) = 6; root(3, 0) = 5
                root(3, 1) = 3; root(8, 0) = 6; root(8, 1) = 6; root(9, 0) = NONE; root(9, 1) = NONE
                """);
        Script.run("ROOTS: pairs of numbers of THE FIELD, from 0 to p less 1", """
                field(97) = 7; put(0, 1, 0, 1) = 0; put(1, 0, 1, 1) = 0; count(8) = 4
                root(0, 0) = 0; root(0, 1) = 0; root(1, 0) = 0; root(1, 1) = 96
                root(2, 0) = 96; root(2, 1) = 0; root(3, 0) = 96; root(3, 1) = 96; root(4, 0) = NONE
                """);
        Script.run("ROOTS: both F and G are 0, not one of them alone: x x = y and y y = 1, then y y = x and x x = 1", """
                put(0, 0, 1, 6) = 0; put(1, 0, 0, 6) = 0; count(8) = 2
                root(0, 0) = 1; root(0, 1) = 1; root(1, 0) = 6; root(1, 1) = 1; root(2, 0) = NONE
                system(2, 2) = 4; put(1, 1, 0, 6) = 0; put(0, 0, 0, 6) = 0; count(8) = 2
                root(0, 0) = 1; root(0, 1) = 1; root(1, 0) = 1; root(1, 1) = 6; root(2, 0) = NONE
                """);
    }

    private static void slotsAreFour() {
        Script.run("SLOTS 0 .. 3 are empty (at first)", """
                size(0) = NULL; size(1) = NULL; size(2) = NULL; size(3) = NULL; count(9) = 0; count(10) = 0
                drop(0) = 0; drop(1) = 0; drop(2) = 0; drop(3) = 0
                """);
        for (String s : new String[] {"-1", "4", "LOWEST", "HIGHEST"}) {
            Script.run("no slot " + s, """
                    poly(S) = BAD; keepBase(S, 0) = BAD; drop(S) = BAD; add(S, 1, 0, 0) = BAD; term(S, 0, 0) = BAD
                    size(S) = BAD; times(S, 0, 0) = BAD; plus(S, 0, 1) = BAD; plus(0, S, 1) = BAD; degree(S) = BAD
                    leads(S, 0) = BAD; reduce(S, 0) = BAD; belongs(S) = BAD; stands(S) = BAD; kept(S, 0) = BAD
                    """.replace("S)", s + ")").replace("S,", s + ","));
        }
        for (int s : new int[] {0, 3}) {
            Script.run("slot " + s, """
                    poly(S) = 0; add(S, 1, 0, 0) = 1; term(S, 0, 0) = 1; size(S) = 1; times(S, 0, 0) = 1; plus(S, S, 1) = 1
                    degree(S) = 0; leads(S, 0) = 0; reduce(S, 0) = 1; belongs(S) = 0
                    keepBase(S, 0) = 2; stands(S) = 1; kept(S, 0) = 0; drop(S) = 2
                    """.replace("S)", s + ")").replace("S,", s + ","));
        }
    }

    private static void polynomialsOfNoneToEight() {
        Script.run("a POLYNOMIAL of 0 to 8 TERMS with numbers that are not 0", Script.EIGHT_TERMS + """
                size(0) = 8; term(0, 7, 0) = 1; term(0, 8, 0) = NONE; poly(1) = 0; size(1) = 0; term(1, 0, 0) = NONE
                add(0, 1, 8, 0) = FULL; add(0, 0, 8, 0) = 8; size(0) = 8
                add(0, 6, 0, 0) = 7; term(0, 6, 1) = 1; term(0, 7, 0) = NONE
                add(0, 1, 8, 0) = 8; term(0, 0, 1) = 8
                """);
        Script.run("in ORDER 0, falling", """
                poly(0) = 0
                add(0, 1, 0, 0) = 1; add(0, 2, 1, 0) = 2; add(0, 3, 0, HIGHEST) = 3; add(0, 4, 1, 1) = 4; add(0, 5, HIGHEST, 0) = 5
                term(0, 0, 0) = 5; term(0, 1, 0) = 4; term(0, 2, 0) = 2; term(0, 3, 0) = 3; term(0, 4, 0) = 1
                times(0, 0, 0) = 5; term(0, 0, 0) = 5; term(0, 4, 0) = 1
                """);
    }

    private static void polynomialsInAnotherField() {
        Script.run("then they are left over by p; TERMS with 0 go", """
                poly(0) = 0; add(0, 6, 3, 0) = 1; add(0, 5, 2, 0) = 2; add(0, 4, 1, 0) = 3; add(0, 2, 0, 0) = 4
                field(9) = BAD
                field(5) = 7
                size(0) = 3; term(0, 0, 0) = 1; term(0, 0, 1) = 3; term(0, 1, 0) = 4; term(0, 1, 1) = 1; term(0, 2, 0) = 2
                field(97) = 5; size(0) = 3; term(0, 0, 0) = 1; term(0, 1, 0) = 4
                field(2) = 97; size(0) = 1; term(0, 0, 0) = 1; term(0, 0, 1) = 3; term(0, 1, 0) = NONE
                """);
        Script.run("a POLYNOMIAL all of whose TERMS went is one still", """
                poly(0) = 0; add(0, 6, 3, 0) = 1; add(0, 3, 2, 0) = 2
                field(3) = 7; size(0) = 0; count(9) = 1; degree(0) = NONE; belongs(0) = 1; term(0, 0, 0) = NONE; leads(0, 0) = NONE
                poly(0) = 1
                """);
        Script.run("where TERMS went, there is room", Script.EIGHT_TERMS + """
                add(0, 1, 7, 0) = 8; add(0, 1, 8, 0) = FULL
                field(2) = 7; size(0) = 7; add(0, 1, 8, 0) = 8; add(0, 1, 9, 0) = FULL
                """);
        Script.run("a greater p takes nothing away", Script.EIGHT_TERMS + """
                add(0, 5, 0, 0) = 8; term(0, 7, 0) = 6; field(97) = 7; size(0) = 8; term(0, 7, 0) = 6; add(0, 90, 0, 0) = 8
                term(0, 7, 0) = 96; add(0, 1, 0, 0) = 7
                """);
    }

    /** By 7: x x + 5 x + 2; by 5: x x + 2, whichever way the base comes there. */
    private static void basesInAnotherField() {
        Script.run("a BASE too", """
                put(0, 1, 0, 5) = 0; put(0, 0, 0, 2) = 0
                keepBase(0, 2) = 2; stands(0) = 1; member(2, 1, 2) = 3
                field(5) = 7; stands(0) = 1; member(2, 1, 2) = 2
                field(7) = 5; stands(0) = 1
                put(0, 1, 0, 5) = 0; stands(0) = 0
                kept(0, 0) = 2; kept(0, 1) = 12; size(0) = 2; count(10) = 1
                """);
        Script.run("a BASE of numbers that both fields have stands in both", """
                put(0, 1, 0, 1) = 0; put(1, 0, 0, 2) = 0
                keepBase(0, 2) = 2; field(97) = 7; stands(0) = 1; field(3) = 97; stands(0) = 1; field(2) = 3; stands(0) = 1
                """);
    }
}
