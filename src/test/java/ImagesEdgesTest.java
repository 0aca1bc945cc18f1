/** The edges that promises 32 and 33 name: image, goBack. */
public final class ImagesEdgesTest {
    public static void main(String[] args) {
        imageOfTwo();
        nothingWasKept();
        keptAsTheyWere();
        keptAnew();
        whatIsKeptIsACopy();
        slotsAsByField();
        slotsStayOutside();
        Due.end();
    }

    private static void imageOfTwo() {
        Script.run("Promise 32: IMAGE i (0, 1): D. BAD", """
                image(-1) = BAD; image(2) = BAD; image(LOWEST) = BAD; image(HIGHEST) = BAD; goBack(0) = NOT; goBack(1) = NOT
                image(0) = 4; system(1, 1) = 1; image(1) = 1; system(3, 3) = 9
                image(-1) = BAD; image(2) = BAD; goBack(0) = 4; goBack(1) = 1; count(3) = 1
                """);
    }

    private static void nothingWasKept() {
        Script.run("Promise 33: BAD; NOT: nothing was kept", """
                system(3, 1) = 3; put(0, 0, 0, 5) = 0; poly(0) = 0; add(0, 6, 1, 0) = 1
                goBack(-1) = BAD; goBack(2) = BAD; goBack(LOWEST) = BAD; goBack(HIGHEST) = BAD; goBack(0) = NOT; goBack(1) = NOT
                image(1) = 3; goBack(0) = NOT; goBack(1) = 3; goBack(1) = 3; goBack(0) = NOT; get(0, 0, 0) = 5
                """);
    }

    private static void keptAsTheyWere() {
        Script.run("Promise 33: THE FIELD, THE SYSTEM, WEIGHTS as they were kept", """
                field(97) = 7; system(3, 2) = 6; weights(9, 8) = 12
                put(0, 0, 0, 96) = 0; put(0, 0, 2, 95) = 0; put(1, 0, 1, 94) = 0; put(1, 1, 0, 1) = 0
                image(0) = 6
                field(2) = 97; system(1, 3) = 3; weights(1, 2) = 98; put(1, 0, 2, 1) = 0
                goBack(0) = 6
                count(0) = 97; count(1) = 3; count(2) = 2; count(3) = 6; count(4) = 9; count(5) = 8
                get(0, 0, 0) = 96; get(0, 0, 2) = 95; get(1, 0, 1) = 94; get(1, 1, 0) = 1; get(1, 0, 2) = BAD; get(0, 2, 0) = 0
                """);
        Script.run("Promise 33: the image of a new object", """
                image(1) = 4; field(3) = 7; system(1, 1) = 1; put(0, 0, 0, 2) = 0; weights(5, 5) = 12; goBack(1) = 4
                count(0) = 7; count(3) = 4; count(4) = 1; count(5) = 2; get(0, 0, 0) = 0; base(0, 0) = 2; least(0, -1) = 2
                """);
    }

    private static void keptAnew() {
        Script.run("Promise 32: what was kept before is kept no more", """
                put(0, 0, 0, 1) = 0; image(0) = 4; put(0, 0, 0, 2) = 1; image(0) = 4; put(0, 0, 0, 3) = 2
                image(1) = 4; put(0, 0, 0, 4) = 3
                goBack(0) = 4; get(0, 0, 0) = 2; goBack(1) = 4; get(0, 0, 0) = 3; goBack(0) = 4; get(0, 0, 0) = 2
                """);
    }

    private static void whatIsKeptIsACopy() {
        Script.run("Promise 33: no call reaches into an image, neither behind image nor behind goBack", """
                field(5) = 7; put(0, 0, 0, 4) = 0; put(1, 0, 0, 3) = 0; image(0) = 4
                put(0, 0, 0, 1) = 4; field(2) = 5; drift(3) = 4; weights(2, 2) = 12; system(3, 3) = 9
                goBack(0) = 4; get(0, 0, 0) = 4; get(1, 0, 0) = 3; count(0) = 5; count(4) = 1
                put(0, 0, 0, 2) = 4; field(3) = 5; drift(3) = 4; weights(2, 2) = 12; system(1, 3) = 3
                goBack(0) = 4; get(0, 0, 0) = 4; get(1, 0, 0) = 3; count(0) = 5; count(4) = 1
                """);
    }

    private static void slotsAsByField() {
        Script.run("Promise 33: SLOTS as by field(), to a lesser p", """
                field(3) = 7; image(0) = 4; field(7) = 3
                poly(0) = 0; add(0, 6, 3, 0) = 1; add(0, 5, 2, 0) = 2; add(0, 1, 1, 0) = 3; poly(1) = 0; add(1, 3, 1, 1) = 1
                goBack(1) = NOT; size(0) = 3; goBack(2) = BAD; size(0) = 3
                goBack(0) = 4
                size(0) = 2; term(0, 0, 0) = 2; term(0, 0, 1) = 2; term(0, 1, 0) = 1; size(1) = 0; count(9) = 2; size(2) = NULL
                """);
        Script.run("Promise 33: SLOTS as by field(), to a greater p and to the same", """
                field(97) = 7; image(0) = 4; field(7) = 97; image(1) = 4
                poly(0) = 0; add(0, 6, 3, 0) = 1; goBack(1) = 4; term(0, 0, 0) = 6; goBack(0) = 4; term(0, 0, 0) = 6
                add(0, 90, 3, 0) = 1; term(0, 0, 0) = 96; goBack(1) = 4; term(0, 0, 0) = 5
                """);
        Script.run("Promise 33: a BASE as by field()", """
                field(5) = 7; put(0, 0, 0, 1) = 0; image(0) = 4; field(7) = 5; put(0, 0, 0, 6) = 1
                keepBase(0, 2) = 2; stands(0) = 1; goBack(0) = 4; stands(0) = 1; kept(0, 0) = 2; count(10) = 1
                """);
    }

    private static void slotsStayOutside() {
        Script.run("Promise 33: what the SLOTS hold is not kept in an IMAGE", """
                poly(0) = 0; add(0, 3, 1, 0) = 1; keepBase(1, 0) = 2; image(0) = 4
                add(0, 1, 2, 0) = 2; drop(1) = 2; poly(2) = 0; goBack(0) = 4
                size(0) = 2; size(1) = NULL; size(2) = 0; size(3) = NULL
                """);
    }
}
