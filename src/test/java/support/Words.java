import java.util.ArrayDeque;
import java.util.ArrayList;
import java.util.Deque;
import java.util.List;

/** A tape as words and signs, its fault found by an automaton; and the value of words, by splitting them. */
final class Words {
    private static final List<String> KEYS = List.of("near", "dies", "fine");
    private static final String[] NAMES = {"dfl", "ak", "yp"};

    /** Behind the key. */
    final List<String> words = new ArrayList<>();
    int key = -1;
    /** -1: there is none. */
    int fault = -1;

    /** What is open: whether the test at hand has its sign, and how many ! stand right ahead of the (. */
    private record Open(boolean compared, int nots) {
    }

    private final Deque<Open> open = new ArrayDeque<>();
    private boolean compared;
    private int pendingNots;
    private boolean operandDue = true;

    Words(String tape) {
        int at = 0;
        boolean afterWord = false;
        while (fault < 0) {
            int blanks = at;
            while (at < tape.length() && tape.charAt(at) == ' ') {
                at++;
            }
            if (at == tape.length()) {
                if (key < 0 || operandDue || !open.isEmpty()) {
                    fault = at;
                }
                return;
            }
            String word = wordAt(tape, at);
            boolean isWord = isLetter(word.charAt(0)) || isDigit(word.charAt(0));
            if (isWord && afterWord && blanks == at || !goesOn(word)) {
                fault = at;
            }
            afterWord = isWord;
            at += word.length();
        }
    }

    private static boolean isLetter(char c) {
        return "abcdefghijklmnopqrstuvwxyz".indexOf(c) >= 0;
    }

    private static boolean isDigit(char c) {
        return "0123456789".indexOf(c) >= 0;
    }

    private static String wordAt(String tape, int at) {
        int end = at + 1;
        char c = tape.charAt(at);
        while (end < tape.length() && (isLetter(c) && isLetter(tape.charAt(end))
            || isDigit(c) && isDigit(tape.charAt(end)))) {
            end++;
        }
        return tape.substring(at, end);
    }

    private boolean goesOn(String word) {
        if (key < 0) {
            key = KEYS.indexOf(word);
            return key >= 0;
        }
        words.add(word);
        return operandDue ? operand(word) : behindOperand(word);
    }

    private int openNots() {
        int nots = pendingNots;
        for (Open one : open) {
            nots += one.nots;
        }
        return nots;
    }

    private boolean operand(String word) {
        char c = word.charAt(0);
        if (c == '!') {
            pendingNots++;
            return openNots() <= 8;
        }
        if (c == '(') {
            open.push(new Open(compared, pendingNots));
            compared = false;
            pendingNots = 0;
            return open.size() <= 8;
        }
        pendingNots = 0;
        operandDue = false;
        return isDigit(c) ? word.length() <= 4 : word.length() == 1 && NAMES[key].indexOf(c) >= 0;
    }

    private boolean behindOperand(String word) {
        char c = word.charAt(0);
        if (c == ')') {
            if (open.isEmpty()) {
                return false;
            }
            compared = open.pop().compared;
            return true;
        }
        operandDue = true;
        if (c == '|' || c == '&') {
            compared = false;
            return true;
        }
        if (c == '<' || c == '=' || c == '>') {
            boolean first = !compared;
            compared = true;
            return first;
        }
        return "+-*/".indexOf(c) >= 0;
    }

    /** Split at the last of the loosest signs that is in no bracket. */
    static int value(List<String> words, String names, int... values) {
        String[] levels = {"|", "&", "<=>", "+-", "*/"};
        for (String level : levels) {
            int depth = 0;
            for (int i = words.size() - 1; i > 0; i--) {
                String word = words.get(i);
                depth += word.equals(")") ? 1 : word.equals("(") ? -1 : 0;
                if (depth == 0 && word.length() == 1 && level.contains(word)) {
                    int left = value(words.subList(0, i), names, values);
                    int right = value(words.subList(i + 1, words.size()), names, values);
                    return join(word.charAt(0), left, right);
                }
            }
        }
        String first = words.get(0);
        if (first.equals("!")) {
            return value(words.subList(1, words.size()), names, values) == 0 ? 1 : 0;
        }
        if (first.equals("(")) {
            return value(words.subList(1, words.size() - 1), names, values);
        }
        return isDigit(first.charAt(0)) ? Integer.parseInt(first) : values[names.indexOf(first)];
    }

    private static int join(char sign, int left, int right) {
        return switch (sign) {
            case '|' -> left != 0 | right != 0 ? 1 : 0;
            case '&' -> left != 0 & right != 0 ? 1 : 0;
            case '<' -> left < right ? 1 : 0;
            case '=' -> left == right ? 1 : 0;
            case '>' -> left > right ? 1 : 0;
            case '+' -> left + right;
            case '-' -> left - right;
            case '*' -> left * right;
            default -> right == 0 ? 0 : left / right;
        };
    }
}
