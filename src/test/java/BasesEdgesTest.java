/** The edges that promises 9 to 17 name: base, member, tail, stair, normal, table, place, least, root. */
public final class BasesEdgesTest {
    /** By 7: x x and y y y + x y; in order 0 y to the 5, x y + y y y and x x. */
    private static final String THREE = "system(2, 3) = 6; put(1, 1, 1, 1) = 0\n";
    /** By 7: x x + y + 3 and y y + 2 x; in order 0 y to the 4 + 4 y + 5 and x + 4 y y. */
    private static final String PLAIN = "put(0, 0, 1, 1) = 0; put(0, 0, 0, 3) = 0; put(1, 1, 0, 2) = 0\n";
    private static final String[] NO_ORDERS = {"-1", "5", "LOWEST", "HIGHEST"};

    public static void main(String[] args) {
        noSuchOrder();
        baseOfWhat();
        baseAtTheEnds();
        memberOfEachOrder();
        memberOfWhat();
        memberCountsItsTerms();
        tailOfMemberAndStair();
        stairOfEach();
        normalBelowNought();
        normalOfStairs();
        normalHoweverHigh();
        tableOfUnknownAndStairs();
        tableLeavesTheStaircase();
        placeOfStairsAlone();
        leastOfUnknown();
        leastBetweenItsEnds();
        rootSoMany();
        Due.end();
    }

    private static void noSuchOrder() {
        for (String order : NO_ORDERS) {
            Script.run("Promises 9 to 15: no order " + order, PLAIN + """
                    base(O, 0) = BAD; base(O, 1) = BAD; base(O, 2) = BAD; member(O, 0, 0) = BAD; tail(O, 0, 0) = BAD
                    stair(O, 0, 0) = BAD; normal(O, 0, 0, 0) = BAD; table(O, 0, 0, 0) = BAD; place(O, 0, 0) = BAD
                    """.replace("O,", order + ","));
        }
        for (int order : new int[] {0, 4}) {
            Script.run("Promises 9 to 15: order " + order, """
                    base(O, 0) = 2; member(O, 0, 2) = 1; tail(O, 0, 0) = 0; stair(O, 0, 0) = 0; normal(O, 0, 0, 0) = 1
                    table(O, 0, 0, 0) = 0; place(O, 0, 0) = 0
                    """.replace("O,", order + ","));
        }
    }

    private static void baseOfWhat() {
        Script.run("Promise 9: what = 0, 1, 2", PLAIN + """
                base(0, 0) = 2; base(0, 1) = 4; base(0, 2) = 3; base(0, -1) = BAD; base(0, 3) = BAD
                base(0, LOWEST) = BAD; base(0, HIGHEST) = BAD; base(4, 3) = BAD; base(4, -1) = BAD; base(5, 3) = BAD
                """);
    }

    private static void baseAtTheEnds() {
        Script.run("Promise 9: the least and the greatest that there are", """
                system(1, 1) = 1; base(0, 0) = 2; base(0, 1) = 1; base(0, 2) = 0; base(3, 1) = 1; base(3, 2) = 0
                system(3, 3) = 9; base(0, 0) = 2; base(0, 1) = 3; base(0, 2) = 4; base(4, 1) = 3; base(4, 2) = 4
                put(1, 1, 0, 1) = 0; base(0, 0) = 2; base(0, 1) = 9; base(0, 2) = 8; base(1, 1) = 3; base(1, 2) = 4
                """);
        Script.run("Promise 9: of what LEADS any MEMBER, not the last alone", THREE + """
                base(0, 1) = 5; member(0, 2, 0) = 2; base(1, 1) = 3
                """);
    }

    private static void memberOfEachOrder() {
        Script.run("Promise 10: BAD: no such MEMBER", THREE + """
                member(0, 0, 0) = 0; member(0, 2, 0) = 2; member(0, 3, 0) = BAD; member(0, -1, 0) = BAD
                member(1, 1, 1) = 3; member(1, 2, 1) = BAD; member(1, -1, 1) = BAD
                member(2, 2, 0) = BAD; member(3, 2, 0) = BAD; member(4, 2, 0) = BAD
                member(0, LOWEST, 0) = BAD; member(0, HIGHEST, 0) = BAD
                system(1, 1) = 1
                member(0, 1, 0) = 1; member(0, 2, 0) = BAD
                """);
    }

    private static void memberOfWhat() {
        Script.run("Promise 10: BAD: no such what", PLAIN + """
                member(0, 0, 0) = 0; member(0, 0, 1) = 4; member(0, 0, 2) = 3; member(0, 0, 3) = BAD; member(0, 0, -1) = BAD
                member(0, 1, 0) = 1; member(0, 1, 1) = 0; member(0, 1, 2) = 2; member(0, 1, 3) = BAD; member(0, 1, -1) = BAD
                member(0, 0, LOWEST) = BAD; member(0, 0, HIGHEST) = BAD; member(5, 9, 3) = BAD
                """);
    }

    private static void memberCountsItsTerms() {
        Script.run("Promise 10: how many TERMS it has (that are not 0): one, and all", """
                member(0, 0, 2) = 1; member(0, 1, 2) = 1
                system(1, 1) = 1; member(0, 0, 2) = 1; put(1, 0, 0, 1) = 0; member(0, 0, 2) = 2; member(0, 1, 2) = 1
                field(97) = 7; system(3, 3) = 9; drift(5) = 9; member(0, 0, 2) = 10; member(0, 1, 2) = 10
                """);
    }

    private static void tailOfMemberAndStair() {
        Script.run("Promise 11: BAD", THREE + """
                tail(0, 1, 3) = 1; tail(0, 1, 5) = 0; tail(0, 1, 6) = BAD; tail(0, 1, -1) = BAD
                tail(0, 2, 0) = 0; tail(0, 3, 0) = BAD; tail(0, -1, 0) = BAD; tail(1, 1, 3) = 1; tail(1, 2, 0) = BAD
                tail(0, 0, LOWEST) = BAD; tail(0, 0, HIGHEST) = BAD; tail(0, LOWEST, 0) = BAD; tail(0, HIGHEST, 0) = BAD
                tail(-1, 0, 0) = BAD; tail(5, 0, 0) = BAD
                system(1, 1) = 1; put(0, 0, 0, 6) = 0
                tail(0, 1, 0) = 6; tail(0, 0, 0) = 0; tail(0, 1, 1) = BAD; tail(0, 2, 0) = BAD
                """);
    }

    private static void stairOfEach() {
        for (int a = 1; a <= 3; a++) {
            for (int b = 1; b <= 3; b++) {
                int last = a * b - 1;
                Script.run("Promise 12: STAIRCASE TERM s of " + a + ", " + b, "system(" + a + ", " + b + ") = " + a * b
                        + "; stair(2, " + last + ", 0) = " + (a - 1) + "; stair(2, " + last + ", 1) = " + (b - 1)
                        + "; stair(2, " + a * b + ", 0) = BAD; stair(2, " + a * b + ", 1) = BAD; stair(2, -1, 0) = BAD");
            }
        }
        Script.run("Promise 12: BAD", """
                stair(0, 0, 0) = 0; stair(0, 3, 1) = 1; stair(0, 0, 2) = BAD; stair(0, 0, -1) = BAD; stair(0, 4, 0) = BAD
                stair(0, LOWEST, 0) = BAD; stair(0, HIGHEST, 0) = BAD; stair(0, 0, LOWEST) = BAD; stair(0, 0, HIGHEST) = BAD
                stair(-1, 0, 0) = BAD; stair(5, 0, 0) = BAD
                """);
    }

    private static void normalBelowNought() {
        Script.run("Promise 13: BAD: i, j below 0, too", PLAIN + """
                normal(0, 0, 0, 0) = 1; normal(0, -1, 0, 0) = BAD; normal(0, 0, -1, 0) = BAD; normal(0, -1, -1, 0) = BAD
                normal(0, LOWEST, 0, 0) = BAD; normal(0, 0, LOWEST, 0) = BAD; normal(0, -1, 1, 0) = BAD; normal(0, 1, -1, 0) = BAD
                normal(5, 0, 0, 0) = BAD; normal(-1, 0, 0, 0) = BAD
                """);
    }

    private static void normalOfStairs() {
        Script.run("Promise 13: the number of STAIRCASE TERM s", PLAIN + """
                normal(0, 0, 3, 3) = 1; normal(0, 0, 3, 4) = BAD; normal(0, 0, 3, -1) = BAD
                normal(0, 0, 4, 0) = 2; normal(0, 0, 4, 1) = 3; normal(0, 1, 0, 2) = 3; normal(0, 1, 0, 0) = 0
                normal(0, 0, 0, LOWEST) = BAD; normal(0, 0, 0, HIGHEST) = BAD
                system(1, 1) = 1; normal(0, 0, 0, 0) = 1; normal(0, 0, 0, 1) = BAD
                system(3, 3) = 9; normal(0, 2, 2, 8) = 1; normal(0, 2, 2, 9) = BAD
                """);
    }

    /** By 97: 5 to the 96 is 1 and to no lesser power; x = 5, y = 96. By 2: x x = x + 1, so x x x = 1. */
    private static void normalHoweverHigh() {
        Script.run("Promise 13: i, j up to 2147483647", """
                field(97) = 7; system(1, 1) = 1; put(0, 0, 0, 92) = 0; put(1, 0, 0, 1) = 0
                normal(0, 1, 0, 0) = 5; normal(0, 96, 0, 0) = 1; normal(0, 97, 0, 0) = 5; normal(0, 48, 0, 0) = 96
                normal(0, 0, HIGHEST, 0) = 96; normal(0, 0, 2147483646, 0) = 1; normal(0, 2147483616, 0, 0) = 1
                normal(0, 2147483617, 0, 0) = 5; normal(0, 2147483617, HIGHEST, 0) = 92
                """);
        Script.run("Promise 13: powers that come again in threes", """
                field(2) = 7; system(2, 1) = 2; put(0, 0, 0, 1) = 0; put(0, 1, 0, 1) = 0; put(1, 0, 0, 1) = 0
                normal(0, 2, 0, 0) = 1; normal(0, 2, 0, 1) = 1; normal(0, 3, 0, 0) = 1; normal(0, 3, 0, 1) = 0
                normal(0, HIGHEST, HIGHEST, 0) = 0; normal(0, HIGHEST, HIGHEST, 1) = 1
                normal(0, 2147483646, 0, 0) = 1; normal(0, 2147483646, 0, 1) = 0
                """);
        Script.run("Promise 13: powers that are 0", """
                normal(0, 1, 1, 3) = 1; normal(0, 2, 0, 0) = 0; normal(0, HIGHEST, 0, 0) = 0; normal(0, HIGHEST, 0, 2) = 0
                normal(0, 0, HIGHEST, 1) = 0; normal(0, HIGHEST, HIGHEST, 3) = 0
                """);
    }

    private static void tableOfUnknownAndStairs() {
        Script.run("Promise 14: BAD", PLAIN + """
                table(0, 0, 0, 2) = 3; table(0, 1, 0, 1) = 1; table(0, 2, 0, 0) = BAD; table(0, -1, 0, 0) = BAD
                table(0, 1, 3, 0) = 2; table(0, 1, 3, 1) = 3; table(0, 1, 3, 3) = 0
                table(0, 1, 4, 0) = BAD; table(0, 1, -1, 0) = BAD; table(0, 1, 0, 4) = BAD; table(0, 1, 0, -1) = BAD
                table(0, LOWEST, 0, 0) = BAD; table(0, HIGHEST, 0, 0) = BAD; table(0, 0, LOWEST, 0) = BAD
                table(0, 0, HIGHEST, 0) = BAD; table(0, 0, 0, LOWEST) = BAD; table(0, 0, 0, HIGHEST) = BAD
                table(-1, 0, 0, 0) = BAD; table(5, 0, 0, 0) = BAD
                """);
    }

    private static void tableLeavesTheStaircase() {
        Script.run("Promise 14: x, y times the only stair, and times the last of nine", """
                system(1, 1) = 1; put(0, 0, 0, 2) = 0; put(1, 0, 0, 3) = 0
                table(0, 0, 0, 0) = 5; table(0, 1, 0, 0) = 4; table(0, 0, 0, 1) = BAD; table(0, 0, 1, 0) = BAD
                system(3, 3) = 9; put(0, 0, 0, 1) = 0; put(1, 0, 0, 1) = 0
                table(2, 0, 8, 3) = 6; table(2, 1, 8, 5) = 6; table(2, 0, 8, 8) = 0; table(2, 0, 9, 0) = BAD; table(2, 0, 8, 9) = BAD
                """);
    }

    private static void placeOfStairsAlone() {
        Script.run("Promise 15: NONE: it LEADS", THREE + """
                place(0, 0, 4) = 4; place(0, 0, 5) = NONE; place(0, 0, 6) = NONE; place(0, 1, 0) = 5; place(0, 1, 1) = NONE
                place(0, 2, 0) = NONE; place(0, 3, 0) = NONE; place(0, HIGHEST, 0) = NONE; place(0, 0, HIGHEST) = NONE
                place(0, HIGHEST, HIGHEST) = NONE; place(1, 1, 2) = 5; place(1, 1, 3) = NONE; place(1, 2, 0) = NONE
                """);
        Script.run("Promise 15: BAD: i, j below 0, too", """
                place(0, 0, 0) = 0; place(0, -1, 0) = BAD; place(0, 0, -1) = BAD; place(0, LOWEST, 0) = BAD; place(0, 0, LOWEST) = BAD
                place(0, -1, HIGHEST) = BAD; place(0, HIGHEST, -1) = BAD; place(5, 0, 0) = BAD; place(-1, 0, 0) = BAD
                """);
    }

    private static void leastOfUnknown() {
        Script.run("Promise 16: x (v = 0), y (1)", """
                least(0, -1) = 2; least(1, -1) = 2; least(2, -1) = BAD; least(-1, -1) = BAD; least(2, 0) = BAD; least(-1, 0) = BAD
                least(LOWEST, 0) = BAD; least(HIGHEST, 0) = BAD
                """);
    }

    private static void leastBetweenItsEnds() {
        Script.run("Promise 16: BAD: k below -1, above the degree", PLAIN + """
                least(0, -2) = BAD; least(0, -1) = 4; least(0, 0) = 2; least(0, 1) = 2; least(0, 2) = 6; least(0, 3) = 0
                least(0, 4) = 1; least(0, 5) = BAD; least(0, LOWEST) = BAD; least(0, HIGHEST) = BAD
                least(1, -2) = BAD; least(1, -1) = 4; least(1, 0) = 5; least(1, 1) = 4; least(1, 2) = 0; least(1, 3) = 0
                least(1, 4) = 1; least(1, 5) = BAD; least(1, LOWEST) = BAD; least(1, HIGHEST) = BAD
                """);
        Script.run("Promise 16: the degrees of x and y are their own", THREE + """
                least(0, -1) = 2; least(0, 2) = 1; least(0, 3) = BAD; least(1, -1) = 5; least(1, 5) = 1; least(1, 6) = BAD
                system(1, 3) = 3
                least(0, -1) = 1; least(0, 1) = 1; least(0, 2) = BAD; least(1, -1) = 3; least(1, 3) = 1; least(1, 4) = BAD
                """);
    }

    private static void rootSoMany() {
        Script.run("Promise 17: NONE: not so many", """
                put(0, 0, 0, 6) = 0; put(1, 0, 0, 6) = 0
                root(0, 0) = 1; root(0, 1) = 1; root(1, 0) = 1; root(1, 1) = 6; root(2, 0) = 6; root(2, 1) = 1
                root(3, 0) = 6; root(3, 1) = 6; root(4, 0) = NONE; root(4, 1) = NONE; root(HIGHEST, 0) = NONE
                put(0, 0, 0, 1) = 6; root(0, 0) = NONE; root(0, 1) = NONE
                """);
        Script.run("Promise 17: BAD: k below 0", """
                root(0, 0) = 0; root(-1, 0) = BAD; root(-1, 1) = BAD; root(LOWEST, 0) = BAD; root(0, 2) = BAD; root(0, -1) = BAD
                root(0, LOWEST) = BAD; root(0, HIGHEST) = BAD; root(-1, 2) = BAD; root(1, 2) = BAD; root(1, 0) = NONE
                """);
    }
}
