/** The edges that "Terms" 4 names, promises 27 to 31: each method is a sentence. */
public final class EdgesTextsTest {
    public static void main(String[] args) {
        tapeOf96Bytes();
        bytesHighestFirst();
        trimKeeps();
        trimThrowsAway();
        textUsesTheTapeUp();
        fourteenTexts();
        faultAheadOfFull();
        keys();
        numbers();
        namesOfEachKey();
        levels();
        oneTestAlone();
        cutsTowards0();
        wraps();
        byZero();
        oneOrZero();
        notBindsAPiece();
        wordsAndSigns();
        blanks();
        wordBehindWord();
        neighboursOfLettersAndDigits();
        ninthBracket();
        ninthNot();
        eachByItself();
        theEndTooSoon();
        faultsAtTheEndsOfTheTape();
        longestTexts();
        toldOfTexts();
        theLastCounts();
        nearNames();
        diesNames();
        Due.end();
    }

    private static void gives(String text, int due) {
        NotWorn x = new NotWorn();
        Due.is("text of fine " + text, Due.text(x, "fine " + text), 0);
        Due.is("fine " + text, x.fine(), due);
    }

    private static void fault(String tape, int place) {
        NotWorn x = new NotWorn();
        Due.is("fault of '" + tape + "'", Due.text(x, tape), -100 - place);
    }

    /** "THE TAPE (96 bytes at most"; feed: "how many it has. FULL: it would have more than 96." */
    private static void tapeOf96Bytes() {
        NotWorn x = new NotWorn();
        for (int have = 12; have <= 96; have += 12) {
            Due.is("feed", x.feed(0, 0, 0), have);
        }
        for (int have : new int[] {96, 95, 85}) {
            x.trim(have);
            Due.is("feed beside " + have, x.feed(0, 0, 0), Due.FULL);
            Due.is("bytes beside " + have, x.count(7), have);
        }
        x.trim(84);
        Due.is("feed beside 84", x.feed(0, 0, 0), 96);
        x.trim(1);
        Due.is("feed beside 1", x.feed(0, 0, 0), 13);
    }

    /** feed: "Twelve bytes come to THE TAPE, the highest of each number first" */
    private static void bytesHighestFirst() {
        NotWorn x = new NotWorn();
        x.feed(0x66696e65, 0x20312b32, 0x2a332b34);
        x.text();
        Due.is("fine 1+2*3+4", x.fine(), 11);
        NotWorn y = new NotWorn();
        y.feed(0x66696e65, 0x20ff2020, 0x20202020);
        Due.is("byte 255", y.text(), -105);
        NotWorn z = new NotWorn();
        z.feed(0x66696e65, 0x20310000, 0);
        Due.is("byte 0", z.text(), -106);
        NotWorn w = new NotWorn();
        w.feed(0x80696e65, -1, Integer.MIN_VALUE);
        Due.is("a number below 0", w.text(), -100);
    }

    /** trim: "THE TAPE keeps its first n bytes: n. BAD." */
    private static void trimKeeps() {
        Edges.range("trim of none", 0, 0, v -> new NotWorn().trim(v), v -> 0);
        Edges.range("trim of 12", 0, 12, v -> {
            NotWorn x = new NotWorn();
            x.feed(1, 2, 3);
            int answer = x.trim(v);
            Due.is("bytes behind trim " + v, x.count(7), answer == Due.BAD ? 12 : v);
            return answer;
        }, v -> v);
        Edges.range("trim of 96", 0, 96, v -> {
            NotWorn x = new NotWorn();
            Due.tape(x, " ".repeat(96));
            return x.trim(v);
        }, v -> v);
    }

    /** the same: "its first n bytes", and others come behind them */
    private static void trimThrowsAway() {
        NotWorn x = new NotWorn();
        x.feed(0x66696e65, 0x20312b37, 0x37373737);
        x.trim(7);
        Due.is("behind them", x.feed(0x32202020, 0x20202020, 0x20202020), 19);
        Due.is("a text", x.text(), 0);
        Due.is("fine 1+2", x.fine(), 3);
        x.feed(0x66696e65, 0x20312020, 0x20202020);
        x.trim(0);
        Due.is("nothing is left", x.text(), -100);
    }

    /** "an act that reads it uses it up, whatever it answers" */
    private static void textUsesTheTapeUp() {
        NotWorn x = new NotWorn();
        Due.is("a text", Due.text(x, "fine 1"), 0);
        Due.is("behind a text", x.count(7), 0);
        Due.is("it is not read again", x.text(), -100);
        Due.is("a fault", Due.text(x, "fine 1+"), -107);
        Due.is("behind a fault", x.count(7), 0);
        Due.is("its rest is gone", Due.text(x, "fine 2"), 1);
        for (int i = 2; i < 14; i++) {
            Due.text(x, "fine 3");
        }
        Due.is("full", Due.text(x, "fine 4"), Due.FULL);
        Due.is("behind FULL", x.count(7), 0);
        x.feed(0, 0, 0);
        x.years(1);
        x.frees(0);
        x.fine();
        Due.is("other acts leave it", x.count(7), 12);
    }

    /** "TEXTS, 14 at most, numbered from 0"; text: "FULL" */
    private static void fourteenTexts() {
        NotWorn x = new NotWorn();
        for (int i = 0; i < 14; i++) {
            Due.is("text " + i, Due.text(x, "fine " + i), i);
            Due.is("texts", x.count(5), i + 1);
        }
        Due.is("the fifteenth", Due.text(x, "near 1"), Due.FULL);
        Due.is("fourteen", x.count(5), 14);
        Due.is("it doesn't count", x.why(0), Due.NONE);
        Due.is("near as it was", x.near(0, 1), 0);
        Due.is("the fourteenth counts", x.why(2), 13);
        Due.is("the fourteenth gives", x.fine(), 13);
    }

    /** text: "-100 less the place of its FAULT; FULL" */
    private static void faultAheadOfFull() {
        NotWorn x = new NotWorn();
        for (int i = 0; i < 14; i++) {
            Due.text(x, "fine " + i);
        }
        Due.is("an empty tape", x.text(), -100);
        Due.is("a fault", Due.text(x, "fine 1 2"), -107);
        Due.is("none", Due.text(x, "fine 1"), Due.FULL);
    }

    /** "KEY E. KEY: near | dies | fine" */
    private static void keys() {
        for (String key : new String[] {"near", "dies", "fine"}) {
            Due.is(key, Due.text(new NotWorn(), key + " 1"), 0);
            fault(key, 4);
            fault(key.substring(0, 3), 0);
            fault(key.substring(0, 3) + " 1", 0);
            fault(key.substring(1) + " 1", 0);
            fault(key + "s 1", 0);
            fault(key + key + " 1", 0);
            fault(key + " " + key, 5);
            fault(key.toUpperCase() + " 1", 0);
        }
        fault("nearies 1", 0);
        fault("nies 1", 0);
        fault("rdie 1", 0);
        fault("1", 0);
        fault("1 near", 0);
        fault("!near 1", 0);
        fault("d", 0);
    }

    /** "NUMBER (1 to 4 digits)"; FAULT: "a NUMBER of more than 4 digits" */
    private static void numbers() {
        gives("0", 0);
        gives("9", 9);
        gives("9999", 9999);
        gives("0000", 0);
        gives("0010", 10);
        fault("fine 10000", 5);
        fault("fine 00000", 5);
        fault("fine 1+12345", 7);
        fault("fine 1+(12345678901234567890)", 8);
    }

    /** "NAMES, each one letter: of near d .. f .. l; of dies a .. k; of fine y .. p" */
    private static void namesOfEachKey() {
        String[] keys = {"near", "dies", "fine"};
        String[] names = {"dfl", "ak", "yp"};
        for (int key = 0; key < 3; key++) {
            for (char letter = 'a'; letter <= 'z'; letter++) {
                boolean is = names[key].indexOf(letter) >= 0;
                String tape = keys[key] + " " + letter;
                Due.is("'" + tape + "'", Due.text(new NotWorn(), tape), is ? 0 : -105);
            }
            fault(keys[key] + " " + names[key], 5);
        }
    }

    /** "E, the loosest first: OR .. AND .. TEST .. SUM .. TERM .. PIECE" */
    private static void levels() {
        gives("1|1&0", 1);
        gives("0&0|1", 1);
        gives("1&2=2", 1);
        gives("2=2&1", 1);
        gives("2&2=1", 0);
        gives("0|2=1", 0);
        gives("1+1=2", 1);
        gives("3=1+2", 1);
        gives("1<1+1", 1);
        gives("1+2*3", 7);
        gives("2*3+1", 7);
        gives("9-8/2", 5);
        gives("8/2-9", -5);
        gives("9-4-3", 2);
        gives("9-4+3", 8);
        gives("9/2*2", 8);
        gives("64/4/2", 8);
        gives("2*9/4", 4);
        gives("!0*5", 5);
        gives("(1|1)&0", 0);
        gives("2*(3+4)", 14);
        gives("9-(4-3)", 8);
    }

    /** "TEST: SUM [ (< | = | >) SUM ]" */
    private static void oneTestAlone() {
        for (String first : new String[] {"<", "=", ">"}) {
            for (String second : new String[] {"<", "=", ">"}) {
                fault("fine 1" + first + "2" + second + "3", 8);
                fault("fine (1" + first + "2" + second + "3)", 9);
                fault("fine 1" + first + second + "2", 7);
                gives("(1" + first + "2)" + second + "9999", "<".equals(second) ? 1 : 0);
            }
        }
        gives("1<2&1<2", 1);
        gives("1<2|3<2", 1);
    }

    /** "/ cuts towards 0" */
    private static void cutsTowards0() {
        gives("7/2", 3);
        gives("(0-7)/2", -3);
        gives("7/(0-2)", -3);
        gives("(0-7)/(0-2)", 3);
        gives("1/2", 0);
        gives("(0-1)/2", 0);
    }

    /** "Ints wrap" */
    private static void wraps() {
        String least = "4096*4096*128";
        gives(least, Integer.MIN_VALUE);
        gives(least + "-1", Integer.MAX_VALUE);
        gives(least + "-1+1", Integer.MIN_VALUE);
        gives("0-" + least, Integer.MIN_VALUE);
        gives("4096*4096*256", 0);
        gives("4096*4096*256+7", 7);
        gives(least + "/(0-1)", Integer.MIN_VALUE);
        gives("9999*9999*9999", 9999 * 9999 * 9999);
        gives(least + "<0", 1);
        gives(least + "-1>0", 1);
        gives(least + "-1<" + least, 0);
        gives(least + "+" + least, 0);
    }

    /** "/ is 0 by 0" */
    private static void byZero() {
        gives("7/0", 0);
        gives("0/0", 0);
        gives("(0-7)/0", 0);
        gives("7/0+5", 5);
        gives("7/(4096*4096*256)", 0);
        gives("7/0/0", 0);
        gives("1|7/0", 1);
    }

    /** "tests, & | ! give 1 or 0 (what is not 0 is true; both sides are worked out)" */
    private static void oneOrZero() {
        int[][] pairs = {{0, 0}, {0, 1}, {0, 7}, {1, 0}, {7, 0}, {7, 7}, {3, 7}, {7, 3}, {4, 3}};
        for (int[] pair : pairs) {
            int a = pair[0];
            int b = pair[1];
            gives(a + "<" + b, a < b ? 1 : 0);
            gives(a + "=" + b, a == b ? 1 : 0);
            gives(a + ">" + b, a > b ? 1 : 0);
            gives(a + "&" + b, a != 0 && b != 0 ? 1 : 0);
            gives(a + "|" + b, a != 0 || b != 0 ? 1 : 0);
        }
        gives("(0-1)&(0-2)", 1);
        gives("(0-1)|0", 1);
        gives("(0-1)<0", 1);
        gives("0>(0-1)", 1);
        gives("!0", 1);
        gives("!1", 0);
        gives("!7", 0);
        gives("!(0-1)", 0);
        gives("!!7", 1);
    }

    /** "PIECE: .. ! PIECE | ( E )" */
    private static void notBindsAPiece() {
        gives("!0+1", 2);
        gives("!(0+1)", 0);
        gives("!0*0", 0);
        gives("5-!0", 4);
        gives("!p", 1);
        fault("fine !", 6);
        fault("fine !+1", 6);
        fault("fine !)", 6);
        fault("fine 1!", 6);
        fault("fine 1!=2", 6);
        fault("fine ()", 6);
        fault("fine (", 6);
        fault("fine )", 5);
        fault("fine (1", 7);
        fault("fine (1)) ", 8);
        fault("fine (1)(2)", 8);
        fault("fine (1)2", 8);
        fault("fine 2(1)", 6);
    }

    /** "any other byte is a sign by itself"; FAULT: "the first byte of the first word or sign with which no TEXT goes on" */
    private static void wordsAndSigns() {
        for (int sign = 0; sign < 256; sign++) {
            char c = (char) sign;
            if (c >= 'a' && c <= 'z' || c >= '0' && c <= '9' || c == ' ' || c == '(' || c == '!') {
                continue;
            }
            fault("fine " + c + "1", 5);
            boolean joins = "|&<=>+-*/".indexOf(c) >= 0;
            fault("fine 1" + c, joins ? 7 : 6);
            fault("fine 1 " + c + c + " 1", joins ? 8 : 7);
        }
        fault("fine +1", 5);
        fault("fine 1+*2", 7);
        fault("fine 1||2", 7);
        fault("fine 1<>2", 7);
        fault("fine foo bar", 5);
    }

    /** "Between words and signs, and at the ends, there may be blanks (byte 32)" */
    private static void blanks() {
        Due.is("blanks ahead", Due.text(new NotWorn(), "   near d"), 0);
        Due.is("blanks behind", Due.text(new NotWorn(), "near d   "), 0);
        Due.is("no blanks", Due.text(new NotWorn(), "near(d)"), 0);
        Due.is("no blanks, !", Due.text(new NotWorn(), "near!d"), 0);
        gives("  1  +  2  *  (  3  )  ", 7);
        gives("! ! 7", 1);
        gives("1<2", 1);
        fault("fine 1 2", 7);
        fault("fine 1 0", 7);
        fault("ne ar d", 0);
        fault("   nea", 3);
        for (char c : new char[] {9, 10, 13, 31, 33, 160}) {
            fault("fine" + c + " ", c == 33 ? 6 : 4);
            fault("" + c, 0);
        }
    }

    /** "a word right behind another one needs one"; FAULT: "(a word that needs a blank ahead of it" */
    private static void wordBehindWord() {
        fault("near1", 4);
        fault("near1 d", 4);
        fault("dies0", 4);
        fault("fine1+1", 4);
        Due.is("with a blank", Due.text(new NotWorn(), "near 1"), 0);
        fault("neard", 0);
        fault("near 1d", 6);
        fault("near d1", 6);
        fault("near dd", 5);
        fault("near d d", 7);
        fault("near (1)d", 8);
        fault("near 12345d", 5);
    }

    /** "a row of letters a .. z, or of digits": bytes right beside them are signs */
    private static void neighboursOfLettersAndDigits() {
        for (char c : new char[] {'a' - 1, 'z' + 1, '9' + 1, 'A', 'Z', '_', '.', 'a' + 128}) {
            fault("fine" + c + "1", 4);
            fault("fine 1" + c, 6);
            fault(c + "fine 1", 0);
        }
        gives("8/9", 0);
        fault("fine y" + (char) ('z' + 1), 6);
        fault("fine z", 5);
        fault("finea 1", 0);
        fault("finez 1", 0);
    }

    /** "the ninth ( that would be open within others" */
    private static void ninthBracket() {
        gives("(".repeat(8) + "5" + ")".repeat(8), 5);
        fault("fine " + "(".repeat(9) + "5" + ")".repeat(9), 13);
        fault("fine " + "(".repeat(12), 13);
        gives("(".repeat(8) + "5" + ")".repeat(8) + "+" + "(".repeat(8) + "5" + ")".repeat(8), 10);
        gives("(".repeat(7) + "(1)+(2)+(3)" + ")".repeat(7), 6);
        fault("fine " + "(".repeat(7) + "(1)+((2))" + ")".repeat(7), 17);
        fault("fine " + "( ".repeat(9) + "5", 21);
    }

    /** "the ninth ! likewise" */
    private static void ninthNot() {
        gives("!".repeat(8) + "5", 1);
        gives("!".repeat(7) + "5", 0);
        fault("fine " + "!".repeat(9) + "5", 13);
        gives("!".repeat(8) + "5+" + "!".repeat(8) + "5", 2);
        gives("!(!(!(!(!(!(!(!5)))))))", 1);
        fault("fine !(!(!(!(!(!(!(!!5)))))))", 20);
        gives("!(!!!!!!!5+!!!!!!!5)", 1);
        fault("fine !(!!!!!!!5+!!!!!!!!5)", 23);
    }

    /** "each by itself" */
    private static void eachByItself() {
        gives("!".repeat(8) + "(".repeat(8) + "5" + ")".repeat(8), 1);
        gives("(".repeat(8) + "!".repeat(8) + "5" + ")".repeat(8), 1);
        gives("!(".repeat(8) + "5" + ")".repeat(8), 1);
        fault("fine " + "!(".repeat(8) + "!5" + ")".repeat(8), 21);
        fault("fine " + "!(".repeat(8) + "(5" + ")".repeat(9), 21);
    }

    /** FAULT: "the end (the place behind the last byte), if it comes too soon" */
    private static void theEndTooSoon() {
        fault("", 0);
        fault(" ", 1);
        fault("near", 4);
        fault("near ", 5);
        fault("fine 1+", 7);
        fault("fine 1+   ", 10);
        fault("fine 1<", 7);
        fault("fine 1&", 7);
        fault("fine 1|", 7);
        fault("fine 1*", 7);
        fault("fine (1 ", 8);
        fault("fine !! ", 8);
    }

    /** the same, and the first and the last byte that there can be */
    private static void faultsAtTheEndsOfTheTape() {
        fault(" ".repeat(96), 96);
        fault("fine" + " ".repeat(92), 96);
        fault("fine 1" + "+1".repeat(44) + " +", 96);
        fault("fine 1" + "+1".repeat(44) + " )", 95);
        fault(" ".repeat(92) + "fine", 96);
        fault(" ".repeat(95) + "f", 95);
        fault(" ".repeat(91) + "fine1", 95);
        Due.is("the last byte", Due.text(new NotWorn(), " ".repeat(90) + "fine 7"), 0);
    }

    /** "96 bytes at most": as many steps as there can be */
    private static void longestTexts() {
        gives("1" + "+1".repeat(45), 46);
        gives("!1" + "+1".repeat(44) + " ", 44);
        gives("(" + "1+".repeat(44) + "1)", 45);
        gives("1234*" + "!5*".repeat(28) + "!0", 0);
        gives("!0*" + "!0*".repeat(28) + "!0 ", 1);
        NotWorn x = new NotWorn();
        Due.text(x, "fine 1" + "+1".repeat(45));
        Due.is("46 numbers", x.textTold(0, 1), 46);
    }

    /** textTold: "Of a TEXT: what 0 KEY .. 1 how many NUMBERS and NAMES it has. BAD." */
    private static void toldOfTexts() {
        for (int many : new int[] {1, 14}) {
            Edges.range("textTold of " + many, 0, many - 1, v -> texts(many).textTold(v, 1), v -> 1 + v % 2);
            Edges.range("textTold: what", 0, 1, v -> texts(many).textTold(0, v), v -> v == 0 ? 2 : 1);
        }
        Due.is("textTold of none", new NotWorn().textTold(0, 0), Due.BAD);
        NotWorn x = new NotWorn();
        Due.text(x, "near 1+(d)*!f");
        Due.text(x, "dies 1234");
        Due.text(x, "fine p");
        int[] leaves = {3, 1, 1};
        for (int i = 0; i < 3; i++) {
            Due.is("key of " + i, x.textTold(i, 0), i);
            Due.is("leaves of " + i, x.textTold(i, 1), leaves[i]);
        }
    }

    private static NotWorn texts(int many) {
        NotWorn x = new NotWorn();
        for (int i = 0; i < many; i++) {
            Due.text(x, i % 2 == 0 ? "fine 1" : "fine 1+y");
        }
        return x;
    }

    /** "Of a KEY that TEXT counts that was told last"; why: "BAD; NONE" */
    private static void theLastCounts() {
        Edges.range("why", 0, 2, v -> new NotWorn().why(v), v -> Due.NONE);
        NotWorn x = new NotWorn();
        Due.text(x, "fine 1");
        Due.text(x, "dies 2");
        Due.text(x, "fine 3");
        Due.text(x, "dies 4 5");
        Due.is("near", x.why(0), Due.NONE);
        Due.is("dies", x.why(1), 1);
        Due.is("fine", x.why(2), 2);
        Due.is("fine gives", x.fine(), 3);
        Due.is("a text with a fault doesn't count", Due.text(x, "fine 5 5"), -107);
        Due.is("fine gives as it gave", x.fine(), 3);
    }

    /** "of near d by how many they are APART, f whether their first letters are alike (1, 0), l .. their last ones" */
    private static void nearNames() {
        for (int like = 0; like < 8; like++) {
            int other = Due.name(like & 1, like >> 1 & 1, like >> 2);
            int d = Integer.bitCount(like);
            int f = 1 - (like & 1);
            int l = 1 - (like >> 2);
            for (int v = 0; v <= 3; v++) {
                Due.is("d=" + v + " of " + other, nearBy("d=" + v, other), d == v ? 1 : 0);
                Due.is("f=" + v + " of " + other, nearBy("f=" + v, other), f == v ? 1 : 0);
                Due.is("l=" + v + " of " + other, nearBy("l=" + v, other), l == v ? 1 : 0);
            }
        }
    }

    private static int nearBy(String law, int other) {
        NotWorn x = new NotWorn();
        Due.text(x, "near " + law);
        Due.is("near the other way by " + law, x.near(other, 0), x.near(0, other));
        return x.near(0, other);
    }

    /** "of dies a its age, k its KIND" */
    private static void diesNames() {
        for (int kind = 0; kind < 6; kind++) {
            for (int asked = 0; asked < 6; asked++) {
                NotWorn x = Edges.one(kind, 0, 0);
                Due.text(x, "dies (k=" + asked + ")*100");
                Due.is("k " + asked + " of " + kind, x.years(1), kind == asked ? 1 : 0);
            }
        }
        for (int age : new int[] {0, 1, 999}) {
            NotWorn x = Edges.one(0, 0, -age);
            Due.text(x, "dies (a=" + age + ")*100");
            Due.is("a " + age, x.years(1), 1);
        }
        NotWorn y = Edges.inYear(9998);
        y.person(0, 0, -999);
        Due.text(y, "dies (a=9999+998)*100");
        Due.is("a 10997", y.years(1), 1);
    }
}
