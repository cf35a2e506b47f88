/** Promises 41 to 45: numbers that wait, the years told, images, counts. */
public final class RowsTest {
    public static void main(String[] args) {
        tell();
        check();
        checkGoesByTheImage();
        checkNearTheLastYear();
        keepAndBack();
        thoseBehindTheImageAreNoMore();
        imageLeavesSheetsSlotsRowsAndTape();
        imageKeepsTexts();
        count();
        Due.end();
    }

    private static void tell() {
        NotWorn x = new NotWorn();
        for (int i = 1; i <= 60; i++) {
            Due.is("tell", x.tell(-i), i);
        }
        Due.is("tell full", x.tell(0), Due.FULL);
        Due.is("tell waits", x.count(6), 60);
        Due.is("check without an image", x.check(1), Due.NO);
        Due.is("none wait then", x.count(6), 0);
        x.tell(1);
        Due.is("check 0", x.check(0), Due.BAD);
        Due.is("none wait behind BAD", x.count(6), 0);
        x.tell(1);
        Due.is("BAD ahead of NO", x.check(31), Due.BAD);
        Due.is("none wait behind BAD again", x.count(6), 0);
    }

    private static void check() {
        NotWorn x = new NotWorn();
        x.seed(3);
        x.deal(8);
        x.keep();
        int[] told = yearsTold(x, 30);
        x.years(100);
        Due.is("check all", checked(x, 30, told, 60), 0);
        Due.is("check one", checked(x, 1, told, 2), 0);
        Due.is("check nothing told", checked(x, 1, told, 0), 1);
        Due.is("check one missing", checked(x, 2, told, 3), 4);
        Due.is("check one too many", checked(x, 2, told, 5), 5);
        told[3]++;
        Due.is("check wrong at 3", checked(x, 30, told, 60), 4);
        Due.is("check changes nothing", x.count(3), 100);
    }

    /** The years told of the state as it is, which comes back by the image. */
    private static int[] yearsTold(NotWorn x, int n) {
        int[] told = new int[2 * n];
        for (int i = 0; i < n; i++) {
            x.years(1);
            told[2 * i] = x.count(1);
            told[2 * i + 1] = x.frees(0);
        }
        x.back();
        return told;
    }

    private static int checked(NotWorn x, int n, int[] told, int many) {
        for (int i = 0; i < many; i++) {
            x.tell(told[i]);
        }
        int answer = x.check(n);
        Due.is("none wait behind a check", x.count(6), 0);
        return answer;
    }

    private static void checkGoesByTheImage() {
        NotWorn x = new NotWorn();
        x.seed(3);
        x.deal(8);
        Due.text(x, "near d<2");
        Due.text(x, "dies a/3");
        x.keep();
        int[] told = yearsTold(x, 20);
        Due.text(x, "near d<3");
        Due.text(x, "dies 100");
        x.lifetime(5);
        x.seed(9);
        x.deal(2);
        Due.is("check by the image's laws", checked(x, 20, told, 40), 0);
        Due.is("the laws are as they were", x.why(0), 2);
    }

    private static void checkNearTheLastYear() {
        NotWorn x = new NotWorn();
        for (int i = 0; i < 99; i++) {
            x.years(100);
        }
        x.years(97);
        x.keep();
        int[] told = {0, 125, 0, 125, 0, 125};
        Due.is("check two years of 30", checked(x, 30, told, 4), 0);
        Due.is("check one too many of 30", checked(x, 30, told, 5), 5);
        x.years(9);
        x.keep();
        Due.is("check no years", checked(x, 5, told, 0), 0);
        Due.is("check no years, one told", checked(x, 5, told, 1), 1);
    }

    private static void keepAndBack() {
        NotWorn x = new NotWorn();
        x.seed(41);
        x.deal(5);
        x.child(1, 2);
        x.child(3, 4);
        x.lifetime(33);
        x.years(4);
        int[] before = state(x);
        Due.is("keep", x.keep(), 5);
        for (int again = 0; again < 2; again++) {
            x.turns(0, (x.told(0, 0) + 1) % 6);
            x.set(1, 1, (x.told(1, 1) + 1) % 125);
            x.set(2, 2, -500);
            x.set(3, 3, x.told(3, 3) == Due.NONE ? 4 : Due.NONE);
            x.forget();
            x.child(5, 5);
            x.lifetime(7);
            x.person(0, 0, 0);
            x.years(50);
            Due.is("back", x.back(), 5);
            int[] then = state(x);
            for (int i = 0; i < before.length; i++) {
                Due.is("state " + i + " behind back", then[i], before[i]);
            }
        }
        x.years(1);
        x.person(0, 0, 0);
        Due.is("keep anew", x.keep(), 6);
        x.years(9);
        x.back();
        Due.is("back to the new one", x.count(3), 5);
    }

    private static int[] state(NotWorn x) {
        int[] state = new int[9 + 20 + 4];
        for (int what = 0; what < 9; what++) {
            state[what] = x.count(what);
        }
        for (int i = 0; i < 20; i++) {
            state[9 + i] = x.told(i / 4, i % 4);
        }
        for (int i = 0; i < 4; i++) {
            state[29 + i] = x.dealing(i);
        }
        return state;
    }

    private static void thoseBehindTheImageAreNoMore() {
        NotWorn x = new NotWorn();
        x.person(0, 3, 0);
        x.child(4, 4);
        x.keep();
        x.person(0, 3, -198);
        x.child(5, 5);
        x.back();
        Due.is("back: alive", x.count(1), 1);
        Due.is("back: yields", x.yields(0), 0);
        Due.is("back: one dealt", x.dealing(0), 1);
        x.set(0, 3, 0);
        x.lifetime(0);
        Due.is("back: frees", x.frees(0), 125);
        Due.is("back: told", x.told(1, 0), Due.BAD);
        Due.is("back: nobody dies", x.years(1), 0);
        Due.is("back: nobody draws", x.count(8), 1);
    }

    private static void imageLeavesSheetsSlotsRowsAndTape() {
        NotWorn x = new NotWorn();
        x.keep();
        x.sheet(0, 0, 2);
        x.mark(0, 1, 9);
        x.lay(0, 3, 17);
        x.tell(1);
        x.feed(1, 2, 3);
        x.back();
        Due.is("back leaves the sheet", x.reads(0), 0);
        Due.is("back leaves the slot", x.rest(0, 10), 7);
        Due.is("back leaves what waits", x.count(6), 1);
        Due.is("back leaves the tape", x.count(7), 12);
    }

    private static void imageKeepsTexts() {
        NotWorn x = new NotWorn();
        x.keep();
        Due.text(x, "near f");
        Due.text(x, "fine 5");
        Due.is("near by the text", x.near(0, 24), 1);
        x.back();
        Due.is("back: no texts", x.count(5), 0);
        Due.is("back: near without a text", x.near(0, 24), 0);
        Due.is("back: fine without a text", x.fine(), 0);
        Due.is("back: why", x.why(0), Due.NONE);
        Due.is("a new text 0", Due.text(x, "fine 6"), 0);
        x.keep();
        Due.is("a new text 1", Due.text(x, "fine 7"), 1);
        x.back();
        Due.is("back to text 0", x.fine(), 6);
        Due.is("another text 1", Due.text(x, "near l"), 1);
        Due.is("fine is still text 0", x.fine(), 6);
        Due.is("near is text 1", x.near(4, 124), 1);
        Due.is("text 1 told", x.textTold(1, 0), 0);
    }

    private static void count() {
        NotWorn x = new NotWorn();
        x.person(0, 1, 0);
        x.person(0, 2, 0);
        x.person(0, 3, 0);
        x.set(1, 3, 0);
        x.child(1, 1);
        Due.text(x, "dies 0");
        Due.text(x, "near 0");
        x.years(5);
        x.lifetime(9);
        x.seed(-4);
        x.tell(3);
        x.tell(3);
        x.feed(0, 0, 0);
        int[] counts = {3, 2, 1, 5, 9, 2, 2, 12, -4};
        for (int what = 0; what < counts.length; what++) {
            Due.is("count " + what, x.count(what), counts[what]);
        }
        Due.is("count -1", x.count(-1), Due.BAD);
        Due.is("count 9", x.count(9), Due.BAD);
    }
}
