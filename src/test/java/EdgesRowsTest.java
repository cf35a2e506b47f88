/** The edges that "Terms" 5 names for rows and images, promises 41 to 45: each method is a sentence. */
public final class EdgesRowsTest {
    public static void main(String[] args) {
        sixtyWait();
        checkFrom1To30();
        checkUsesThemUp();
        checkRight();
        checkWrongAtEach();
        checkMissing();
        checkOneTooMany();
        checkFewerYears();
        checkByTheImage();
        checkChangesNothing();
        keepCounts();
        backWithoutImage();
        backAgainAndAgain();
        keepAnew();
        imageKeepsAllOfThese();
        imageKeepsTexts();
        imageLeavesThese();
        counts();
        Due.end();
    }

    /** tell: "One more number waits: how many. FULL: 60 wait." */
    private static void sixtyWait() {
        NotWorn x = new NotWorn();
        for (int i = 1; i <= 60; i++) {
            Due.is("tell", x.tell(i % 2 == 0 ? Integer.MIN_VALUE : Integer.MAX_VALUE), i);
        }
        Due.is("the 61st", x.tell(0), Due.FULL);
        Due.is("60 wait", x.count(6), 60);
        x.check(1);
        Due.is("the first again", x.tell(0), 1);
    }

    /** check: "n (1 .. 30"; "BAD; NO: there is no IMAGE" */
    private static void checkFrom1To30() {
        Edges.range("check without an image", 1, 30, v -> new NotWorn().check(v), v -> Due.NO);
        Edges.range("check of nothing", 1, 30, v -> {
            NotWorn x = new NotWorn();
            x.keep();
            return x.check(v);
        }, v -> 1);
        Edges.range("check of nobody", 1, 30, v -> {
            NotWorn x = new NotWorn();
            x.keep();
            for (int i = 0; i < v && i < 30; i++) {
                x.tell(0);
                x.tell(125);
            }
            return x.check(v);
        }, v -> 0);
    }

    /** check: "(none do then, whatever is answered)" */
    private static void checkUsesThemUp() {
        NotWorn x = new NotWorn();
        int[] answers = {Due.NO, Due.BAD, Due.BAD};
        int[] asked = {1, 0, 31};
        for (int i = 0; i < 3; i++) {
            x.tell(1);
            Due.is("check " + asked[i], x.check(asked[i]), answers[i]);
            Due.is("none wait behind " + asked[i], x.count(6), 0);
        }
        x.keep();
        for (int n : new int[] {0, 31}) {
            x.tell(1);
            Due.is("check " + n, x.check(n), Due.BAD);
            Due.is("none wait behind BAD", x.count(6), 0);
        }
        x.tell(1);
        Due.is("wrong", x.check(1), 1);
        Due.is("none wait behind a wrong one", x.count(6), 0);
        x.tell(0);
        x.tell(125);
        Due.is("right", x.check(1), 0);
        Due.is("none wait behind right ones", x.count(6), 0);
        Due.is("nothing is there again", x.check(1), 1);
    }

    private static NotWorn valley() {
        NotWorn x = new NotWorn();
        x.seed(12);
        x.deal(10);
        Due.text(x, "near d<2");
        return x;
    }

    /** THE YEARS TOLD, by another object that lives them. */
    private static int[] yearsTold(int n) {
        NotWorn y = valley();
        int[] told = new int[2 * n];
        for (int i = 0; i < n; i++) {
            y.years(1);
            told[2 * i] = y.count(1);
            told[2 * i + 1] = y.frees(0);
        }
        return told;
    }

    private static void tell(NotWorn x, int[] told, int many) {
        for (int i = 0; i < many; i++) {
            x.tell(told[i]);
        }
    }

    /** "how many of PEOPLE are alive; how many NAMES are FREE, behind each"; check: "two by two: 0" */
    private static void checkRight() {
        for (int n : new int[] {1, 2, 29, 30}) {
            NotWorn x = valley();
            x.keep();
            tell(x, yearsTold(n), 2 * n);
            Due.is("check " + n, x.check(n), 0);
        }
    }

    /** check: "else 1 and how many stand right ahead of the first that is not" */
    private static void checkWrongAtEach() {
        for (int wrong = 0; wrong < 60; wrong++) {
            NotWorn x = valley();
            x.keep();
            int[] told = yearsTold(30);
            told[wrong]++;
            if (wrong < 59) {
                told[59]--;
            }
            tell(x, told, 60);
            Due.is("wrong at " + wrong, x.check(30), 1 + wrong);
        }
    }

    /** check: "(or is missing" */
    private static void checkMissing() {
        int[] told = yearsTold(30);
        for (int many = 0; many < 60; many++) {
            NotWorn x = valley();
            x.keep();
            tell(x, told, many);
            Due.is("missing behind " + many, x.check(30), 1 + many);
        }
    }

    /** check: "or one too many)" */
    private static void checkOneTooMany() {
        int[] told = yearsTold(30);
        for (int n = 1; n < 30; n++) {
            NotWorn x = valley();
            x.keep();
            tell(x, told, 2 * n + 1);
            Due.is("one too many of " + n, x.check(n), 1 + 2 * n);
        }
        NotWorn y = valley();
        y.keep();
        tell(y, told, 60);
        Due.is("58 too many", y.check(1), 3);
    }

    /** check: "fewer, if THE YEAR would be above 9999" */
    private static void checkFewerYears() {
        int[] told = {0, 125, 0, 125, 0, 125};
        for (int left = 0; left <= 2; left++) {
            NotWorn x = Edges.inYear(9999 - left);
            x.keep();
            tell(x, told, 2 * left);
            Due.is("all that are left, " + left, x.check(30), 0);
            tell(x, told, 2 * left);
            Due.is("just one more, " + left, x.check(left + 1), 0);
            tell(x, told, 2 * left + 1);
            Due.is("one too many, " + left, x.check(30), 1 + 2 * left);
        }
        NotWorn y = Edges.inYear(9998);
        y.keep();
        Due.is("missing in 9998", y.check(2), 1);
        NotWorn z = Edges.inYear(9997);
        z.keep();
        tell(z, told, 4);
        Due.is("two of two", z.check(2), 0);
        tell(z, told, 4);
        Due.is("one of two", z.check(1), 3);
    }

    /** "of n YEARS, one behind the other, by THE IMAGE" */
    private static void checkByTheImage() {
        int[] told = yearsTold(30);
        NotWorn x = valley();
        x.keep();
        x.years(50);
        x.seed(0);
        x.lifetime(0);
        Due.text(x, "near 1");
        Due.text(x, "dies 0");
        x.set(0, 1, 0);
        x.turns(1, 5);
        tell(x, told, 60);
        Due.is("by THE IMAGE", x.check(30), 0);
        x.back();
        tell(x, told, 60);
        Due.is("behind back", x.check(30), 0);
        NotWorn y = Edges.inYear(9998);
        y.keep();
        y.years(1);
        y.tell(0);
        y.tell(125);
        Due.is("THE IMAGE's year is left", y.check(1), 0);
    }

    /** check changes nothing but the numbers that wait */
    private static void checkChangesNothing() {
        NotWorn x = valley();
        x.keep();
        x.years(3);
        NotWorn y = valley();
        y.years(3);
        tell(x, yearsTold(30), 60);
        x.check(30);
        for (int what = 0; what < 9; what++) {
            Due.is("count " + what, x.count(what), y.count(what));
        }
        for (int i = 0; i < 40; i++) {
            Due.is("told " + i, x.told(i / 4, i % 4), y.told(i / 4, i % 4));
        }
        Due.is("THE IMAGE as it was", x.back(), 10);
        Due.is("THE IMAGE's year", x.count(3), 0);
        Due.is("THE IMAGE's z", x.count(8), valley().count(8));
    }

    /** keep: "AN IMAGE is kept: how many PEOPLE." */
    private static void keepCounts() {
        for (int many : new int[] {0, 10}) {
            NotWorn x = Edges.people(many);
            Due.is("keep " + many, x.keep(), many);
            Due.is("back to " + many, x.back(), many);
        }
    }

    /** back: "NO: there is none." */
    private static void backWithoutImage() {
        NotWorn x = Edges.people(3);
        Due.is("no image", x.back(), Due.NO);
        Due.is("as it was", x.count(0), 3);
        NotWorn y = new NotWorn();
        y.keep();
        Due.is("an image of nobody", y.back(), 0);
    }

    /** "all can become as it is (again and again)" */
    private static void backAgainAndAgain() {
        NotWorn x = Edges.people(4);
        x.keep();
        for (int again = 0; again < 3; again++) {
            x.set(0, 1, 1 + again);
            x.set(1, 3, 0);
            x.person(0, 0, 0);
            x.years(1);
            Due.is("back " + again, x.back(), 4);
            Due.is("name " + again, x.told(0, 1), 100);
            Due.is("death " + again, x.told(1, 3), Due.NONE);
            Due.is("year " + again, x.count(3), 0);
        }
        Due.is("at once again", x.back(), 4);
    }

    /** keep: the last one is THE IMAGE */
    private static void keepAnew() {
        NotWorn x = Edges.people(4);
        x.keep();
        x.person(0, 0, 0);
        Due.is("keep anew", x.keep(), 5);
        x.person(0, 1, 0);
        Due.is("back to the new one", x.back(), 5);
    }

    /** "AN IMAGE keeps all but" */
    private static void imageKeepsAllOfThese() {
        NotWorn x = Edges.inYear(5);
        x.person(3, 33, 2);
        x.person(4, 44, -4);
        x.set(1, 3, 5);
        x.child(7, 8);
        x.child(7, 9);
        x.lifetime(33);
        x.seed(-5);
        x.keep();
        x.turns(0, 0);
        x.set(0, 1, 0);
        x.set(0, 2, 0);
        x.set(0, 3, 4);
        x.set(1, 3, Due.NONE);
        x.christen();
        x.child(1, 1);
        x.child(2, 2);
        x.child(3, 3);
        x.lifetime(44);
        x.years(3);
        x.seed(99);
        Due.is("back", x.back(), 2);
        int[][] due = {{3, 33, 2, Due.NONE}, {4, 44, -4, 5}};
        for (int i = 0; i < 8; i++) {
            Due.is("told " + i, x.told(i / 4, i % 4), due[i / 4][i % 4]);
        }
        int[] dealt = {2, 1, 7, 9, Due.BAD};
        for (int i = 0; i < dealt.length; i++) {
            Due.is("dealing " + i, x.dealing(i), dealt[i]);
        }
        int[] counts = {2, 1, 2, 5, 33, 0, 0, 0, -5};
        for (int what = 0; what < 9; what++) {
            Due.is("count " + what, x.count(what), counts[what]);
        }
    }

    /** the same, of TEXTS: those told behind it are no more, and there is room for others */
    private static void imageKeepsTexts() {
        NotWorn x = new NotWorn();
        Due.text(x, "near d<2");
        Due.text(x, "dies 0");
        Due.text(x, "fine 3");
        x.keep();
        for (int i = 3; i < 14; i++) {
            Due.is("text " + i, Due.text(x, i % 2 == 0 ? "near 0" : "fine 9"), i);
        }
        Due.is("full", Due.text(x, "fine 1"), Due.FULL);
        x.back();
        Due.is("three", x.count(5), 3);
        Due.is("no fourth", x.textTold(3, 0), Due.BAD);
        for (int key = 0; key < 3; key++) {
            Due.is("why " + key, x.why(key), key);
        }
        Due.is("near by the first", x.near(0, 1), 1);
        Due.is("fine by the third", x.fine(), 3);
        Due.is("room again", Due.text(x, "dies 100+a"), 3);
        Due.is("its leaves", x.textTold(3, 1), 2);
        Due.is("its key", x.textTold(3, 0), 1);
        x.person(0, 0, 0);
        Due.is("it counts", x.years(1), 1);
        x.back();
        x.person(0, 0, 0);
        Due.is("it counts no more", x.years(1), 0);
    }

    /** "all but SHEETS, SLOTS, numbers that wait, THE TAPE" */
    private static void imageLeavesThese() {
        NotWorn x = new NotWorn();
        Edges.fill(x, 0, 0, 1, 2);
        x.lay(0, 3, 17);
        x.tell(0);
        x.feed(0x66696e65, 0x20372020, 0x20202020);
        x.keep();
        Edges.fill(x, 0, 1, 3, 4, 5);
        Edges.fill(x, 1, 0, 6);
        x.lay(0, 2, 1);
        x.tell(125);
        x.trim(6);
        x.back();
        Edges.shows("a SHEET", x, 0, 3, 4, 5);
        Edges.shows("another SHEET", x, 1, 6);
        Due.is("a SLOT", x.item(0, 0), 6);
        Due.is("bytes", x.count(7), 6);
        Due.is("two wait", x.count(6), 2);
        Due.is("they are right", x.check(1), 0);
        Due.is("a text", x.text(), 0);
        Due.is("it gives", x.fine(), 7);
    }

    /** count: "0 PEOPLE .. 8 z. BAD." */
    private static void counts() {
        Edges.range("count", 0, 8, v -> new NotWorn().count(v), v -> v == 0 ? 0 : 1);
        NotWorn x = Edges.people(10);
        x.set(0, 3, 0);
        for (int i = 0; i < 6; i++) {
            x.child(i, i);
        }
        for (int i = 0; i < 14; i++) {
            Due.text(x, "fine 1");
        }
        for (int i = 0; i < 60; i++) {
            x.tell(i);
        }
        for (int i = 0; i < 8; i++) {
            x.feed(0, 0, 0);
        }
        x.lifetime(200);
        x.seed(Integer.MIN_VALUE);
        int[] full = {10, 9, 6, 0, 200, 14, 60, 96, Integer.MIN_VALUE};
        for (int what = 0; what < 9; what++) {
            Due.is("full: count " + what, x.count(what), full[what]);
        }
        Due.is("9999", Edges.inTheLastYear().count(3), 9999);
    }
}
