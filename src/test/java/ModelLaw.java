import java.util.ArrayDeque;
import java.util.Deque;

/** LAWS, read in another way than the class does: a stack of open signs for FAULTS, cutting of strings for WORTH. */
final class ModelLaw {
    private static final int LARGEST = 1000000;

    private ModelLaw() {
    }

    private static boolean in(String signs, char c) {
        return signs.indexOf(c) >= 0;
    }

    // Open signs: B a CLAUSE ahead of its ?, S behind it, and ( [ ! themselves.
    private static final class Reading {
        final Deque<Character> open = new ArrayDeque<>();
        boolean wantsOperand;
        boolean unitStart;
        boolean joined;
        int compared;

        void clause() {
            joined = false;
            open.clear();
            open.push('B');
            wantsOperand = true;
            unitStart = true;
            compared = 0;
        }

        void dropNots() {
            while (open.peek() == '!') {
                open.pop();
            }
        }

        boolean mayEnd() {
            return !wantsOperand && (open.peek() == 'S' || (open.peek() == 'B' && compared == 0 && !joined));
        }

        boolean operandSign(char c) {
            if (in("lfhgmn", c)) {
                wantsOperand = false;
                unitStart = false;
                return true;
            }
            boolean opens = c == '[' || (unitStart && (c == '(' || c == '!'));
            if (!opens || open.size() > 6) {
                return false;
            }
            open.push(c);
            unitStart = c != '[';
            return true;
        }

        boolean joiningSign(char c) {
            if (in("+-*/", c)) {
                wantsOperand = true;
                unitStart = false;
                return compared != 2;
            }
            char top = open.peek();
            if (c == ']') {
                if (top == '[') {
                    open.pop();
                    return true;
                }
                return false;
            }
            if (in("=<>", c)) {
                boolean may = top != '[' && top != 'S' && compared == 0;
                compared = 1;
                wantsOperand = true;
                return may;
            }
            return top != '[' && top != 'S' && compared > 0 && closing(c);
        }

        boolean closing(char c) {
            dropNots();
            if (c == '&' || c == '|') {
                joined = true;
                compared = 0;
                wantsOperand = true;
                unitStart = true;
                return true;
            }
            if (c == ')' && open.peek() == '(') {
                open.pop();
                compared = 2;
                return true;
            }
            if (c == '?' && open.peek() == 'B') {
                open.pop();
                open.push('S');
                compared = 0;
                wantsOperand = true;
                return true;
            }
            return false;
        }
    }

    static int fault(String text) {
        Reading reading = new Reading();
        int head = 0;
        int at = 0;
        while (at < text.length()) {
            char c = text.charAt(at);
            if (c == ' ') {
                at++;
            } else if (head < 2) {
                if (c != "y:".charAt(head)) {
                    return at;
                }
                head++;
                at++;
                reading.clause();
            } else if (in("0123456789", c)) {
                int behind = at;
                while (behind < text.length() && in("0123456789", text.charAt(behind))) {
                    behind++;
                }
                if (!reading.wantsOperand) {
                    return at;
                }
                if (behind - at > 4) {
                    return at + 4;
                }
                reading.wantsOperand = false;
                reading.unitStart = false;
                at = behind;
            } else if (c == ';') {
                if (!reading.mayEnd()) {
                    return at;
                }
                head = 0;
                at++;
            } else {
                boolean fine = reading.wantsOperand ? reading.operandSign(c) : reading.joiningSign(c);
                if (!fine) {
                    return at;
                }
                at++;
            }
        }
        return head == 2 && reading.mayEnd() ? -1 : text.length();
    }

    /** values: l f h g m n. */
    static int worth(String law, int[] values) {
        for (String clause : law.replace(" ", "").split(";")) {
            String body = clause.substring(2);
            int mark = body.indexOf('?');
            if (mark < 0 || holds(body.substring(0, mark), values)) {
                return sum(body.substring(mark + 1), values);
            }
        }
        return 0;
    }

    private static int lastOutside(String text, String signs) {
        int depth = 0;
        for (int k = text.length() - 1; k >= 0; k--) {
            char c = text.charAt(k);
            if (in(")]", c)) {
                depth++;
            } else if (in("([", c)) {
                depth--;
            } else if (depth == 0 && in(signs, c)) {
                return k;
            }
        }
        return -1;
    }

    private static boolean holds(String text, int[] values) {
        int cut = lastOutside(text, "|");
        if (cut >= 0) {
            return holds(text.substring(0, cut), values) | holds(text.substring(cut + 1), values);
        }
        cut = lastOutside(text, "&");
        if (cut >= 0) {
            return holds(text.substring(0, cut), values) & holds(text.substring(cut + 1), values);
        }
        if (text.charAt(0) == '!') {
            return !holds(text.substring(1), values);
        }
        if (text.charAt(0) == '(') {
            return holds(text.substring(1, text.length() - 1), values);
        }
        cut = lastOutside(text, "=<>");
        int left = sum(text.substring(0, cut), values);
        int right = sum(text.substring(cut + 1), values);
        switch (text.charAt(cut)) {
            case '=':
                return left == right;
            case '<':
                return left < right;
            default:
                return left > right;
        }
    }

    private static int sum(String text, int[] values) {
        int cut = lastOutside(text, "+-");
        if (cut < 0) {
            cut = lastOutside(text, "*/");
        }
        if (cut >= 0) {
            long left = sum(text.substring(0, cut), values);
            long right = sum(text.substring(cut + 1), values);
            switch (text.charAt(cut)) {
                case '+':
                    return held(left + right);
                case '-':
                    return held(left - right);
                case '*':
                    return held(left * right);
                default:
                    return right == 0 ? 0 : held(left / right);
            }
        }
        if (text.charAt(0) == '[') {
            return sum(text.substring(1, text.length() - 1), values);
        }
        int letter = "lfhgmn".indexOf(text.charAt(0));
        return letter >= 0 ? values[letter] : Integer.parseInt(text);
    }

    private static int held(long value) {
        return (int) Math.max(-LARGEST, Math.min(LARGEST, value));
    }
}
