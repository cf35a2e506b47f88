/** Promises 27 to 31: the tape, texts and their faults, which text counts. */
public final class TextsTest {
    public static void main(String[] args) {
        feed();
        trim();
        text();
        values();
        faults();
        depths();
        fullTexts();
        textTold();
        why();
        Due.end();
    }

    private static void feed() {
        NotWorn x = new NotWorn();
        for (int i = 1; i <= 8; i++) {
            Due.is("feed", x.feed(0x20202020, 0x20202020, 0x20202020), 12 * i);
        }
        Due.is("feed full", x.feed(0, 0, 0), Due.FULL);
        Due.is("feed kept", x.count(7), 96);
        x.trim(85);
        Due.is("feed full by one", x.feed(0, 0, 0), Due.FULL);
        x.trim(84);
        Due.is("feed just", x.feed(0, 0, 0), 96);
        NotWorn y = new NotWorn();
        y.feed(0x66696e65, 0x20312a32, 0x30202020);
        Due.is("feed: highest first", y.text(), 0);
        Due.is("feed: fine 1*20", y.fine(), 20);
    }

    private static void trim() {
        NotWorn x = new NotWorn();
        Due.is("trim empty", x.trim(0), 0);
        Due.is("trim empty 1", x.trim(1), Due.BAD);
        x.feed(1, 2, 3);
        Due.is("trim -1", x.trim(-1), Due.BAD);
        Due.is("trim 13", x.trim(13), Due.BAD);
        Due.is("trim 12", x.trim(12), 12);
        Due.is("trim 5", x.trim(5), 5);
        Due.is("trim 6", x.trim(6), Due.BAD);
        Due.is("trim kept", x.count(7), 5);
    }

    private static void text() {
        NotWorn x = new NotWorn();
        Due.is("text", Due.text(x, "near d"), 0);
        Due.is("text uses the tape up", x.count(7), 0);
        Due.is("text again", Due.text(x, "  dies   a  "), 1);
        Due.is("text with a sign behind its key", Due.text(x, "fine(y)"), 2);
        Due.is("text with a fault", Due.text(x, "fine z"), -105);
        Due.is("text with a fault uses the tape up", x.count(7), 0);
        Due.is("text of an empty tape", x.text(), -100);
        Due.is("texts", x.count(5), 3);
    }

    private static void values() {
        gives("7", 7);
        gives("0007", 7);
        gives("9999", 9999);
        gives("1+2*3", 7);
        gives("(1+2)*3", 9);
        gives("9-3-2", 4);
        gives("9-(3-2)", 8);
        gives("100/7/2", 7);
        gives("2*7/3", 4);
        gives("7/2*2", 6);
        gives("(0-7)/2", -3);
        gives("5/0", 0);
        gives("1<2", 1);
        gives("2<2", 0);
        gives("2=2", 1);
        gives("2=3", 0);
        gives("3>2", 1);
        gives("2>2", 0);
        gives("1+1=2", 1);
        gives("(1<2)<3", 1);
        gives("5&7", 1);
        gives("5&0", 0);
        gives("0|0", 0);
        gives("0|9", 1);
        gives("1|0&0", 1);
        gives("(1|0)&0", 0);
        gives("0&0|1", 1);
        gives("2=2&3=3", 1);
        gives("!5", 0);
        gives("!0", 1);
        gives("!!5", 1);
        gives("!0+1", 2);
        gives("!(0+1)", 0);
        gives("!2*3", 0);
        gives("! 0", 1);
        gives("(((((((8)))))))", 8);
        gives("p", 0);
        gives("y+p", 0);
        gives("9999*9999*22-9999", 9999 * 9999 * 22 - 9999);
        gives("(0-9999*9999*9999*9999)/(0-1)", 9999 * 9999 * 9999 * 9999);
        gives("1 <2& 3>  2", 1);
        gives("(1=2)-3", -3);
    }

    private static void gives(String text, int due) {
        NotWorn x = new NotWorn();
        Due.is("text " + text, Due.text(x, "fine " + text), 0);
        Due.is("fine " + text, x.fine(), due);
    }

    private static void faults() {
        fault("", 0);
        fault("   ", 3);
        fault("near", 4);
        fault("near   ", 7);
        fault("nea", 0);
        fault("nears d", 0);
        fault("  neard", 2);
        fault("near3", 4);
        fault("near 3 4", 7);
        fault("near 3d", 6);
        fault("near d3", 6);
        fault("near dd", 5);
        fault("near a", 5);
        fault("near k", 5);
        fault("dies d", 5);
        fault("dies y", 5);
        fault("fine a", 5);
        fault("fine 12345", 5);
        fault("fine 1+00000", 7);
        fault("fine 1<2<3", 8);
        fault("fine 1=2 > 3", 9);
        fault("fine (1<2<3)", 9);
        fault("fine 1+", 7);
        fault("fine 1+ ", 8);
        fault("fine -1", 5);
        fault("fine 1--1", 7);
        fault("fine !", 6);
        fault("fine !*", 6);
        fault("fine ()", 6);
        fault("fine (1", 7);
        fault("fine (1  ", 9);
        fault("fine (1))", 8);
        fault("fine 1)", 6);
        fault("fine 1!", 6);
        fault("fine 1(", 6);
        fault("fine 1,2", 6);
        fault("fine A", 5);
        fault("fine\t1", 4);
        fault("fine 1\0", 6);
        fault("fine 1 " + (char) 233, 7);
        fault("Near d", 0);
        fault("7", 0);
        fault("(near d)", 0);
        fault("fine near", 5);
        fault("fine 1 fine", 7);
        fault("nearz 1", 0);
        fault("zfine 1", 0);
        fault("fear 1", 0);
        fault("lies 1", 0);
        fault("mine 1", 0);
    }

    private static void fault(String tape, int place) {
        NotWorn x = new NotWorn();
        Due.is("fault of '" + tape + "'", Due.text(x, tape), -100 - place);
        Due.is("no text of '" + tape + "'", x.count(5), 0);
        Due.is("no byte of '" + tape + "'", x.count(7), 0);
    }

    private static void depths() {
        gives("((((((((6))))))))", 6);
        fault("fine (((((((((6)))))))))", 13);
        gives("!!!!!!!!6", 1);
        fault("fine !!!!!!!!!6", 13);
        gives("!(!(!(!(!(!(!(!(6))))))))", 1);
        gives("!((!!((!!((!!((!0))))))))", 0);
        fault("fine !((!!((!!((!!!(!0))))))))", 20);
        gives("((((((((6))))))))+((((((((6))))))))", 12);
        gives("!!!!!!!!6+!!!!!!!!6", 2);
        gives("!(!!!!!!!6)+!1", 1);
        fault("fine !(!!!!!!!6+!!!!!!!!6)", 23);
        fault("fine !(!!!!!!!!6)", 14);
    }

    private static void fullTexts() {
        NotWorn x = new NotWorn();
        for (int i = 0; i < 14; i++) {
            Due.is("text " + i, Due.text(x, "fine " + i), i);
        }
        Due.is("text full", Due.text(x, "fine 77"), Due.FULL);
        Due.is("text full uses the tape up", x.count(7), 0);
        Due.is("text: FAULT ahead of FULL", Due.text(x, "fine 1+"), -107);
        Due.is("texts 14", x.count(5), 14);
        Due.is("the last counts", x.fine(), 13);
        x.keep();
        Due.is("texts back", x.back(), 0);
        Due.is("still full", Due.text(x, "fine 77"), Due.FULL);
        StringBuilder longest = new StringBuilder("fine 1");
        while (longest.length() < 96) {
            longest.append("+1");
        }
        NotWorn y = new NotWorn();
        Due.is("the longest", Due.text(y, longest.toString()), 0);
        Due.is("the longest gives", y.fine(), 46);
        Due.is("the longest has", y.textTold(0, 1), 46);
    }

    private static void textTold() {
        NotWorn x = new NotWorn();
        Due.text(x, "near d+f+l-1=(2)");
        Due.text(x, "dies !a");
        Due.text(x, "fine y/0/1/p");
        int[] leaves = {5, 1, 4};
        for (int i = 0; i < 3; i++) {
            Due.is("textTold key", x.textTold(i, 0), i);
            Due.is("textTold leaves", x.textTold(i, 1), leaves[i]);
        }
        Due.is("textTold 3", x.textTold(3, 0), Due.BAD);
        Due.is("textTold -1", x.textTold(-1, 0), Due.BAD);
        Due.is("textTold what 2", x.textTold(0, 2), Due.BAD);
        Due.is("textTold what -1", x.textTold(0, -1), Due.BAD);
    }

    private static void why() {
        NotWorn x = new NotWorn();
        Due.text(x, "fine 1");
        Due.text(x, "near 1");
        Due.text(x, "fine 2");
        Due.is("why near", x.why(0), 1);
        Due.is("why dies", x.why(1), Due.NONE);
        Due.is("why fine", x.why(2), 2);
        Due.is("why 3", x.why(3), Due.BAD);
        Due.is("why -1", x.why(-1), Due.BAD);
        Due.is("the last counts", x.fine(), 2);
    }
}
