import java.util.ArrayList;
import java.util.Collections;
import java.util.List;
import java.util.Random;

/** Draws LANDS and LAWS, and spoils some of them. */
final class RandomTexts {
    private final Random random;

    RandomTexts(Random random) {
        this.random = random;
    }

    private int below(int n) {
        return random.nextInt(n);
    }

    private String blank() {
        return below(12) == 0 ? "   ".substring(below(3)) : "";
    }

    String land() {
        int wide = 2 + below(5);
        int rows = 2 + below(4);
        List<String> clauses = new ArrayList<>();
        clauses.add("s" + items("whkf", new int[] {wide, rows, below(3) == 0 ? below(4) : below(100), below(4) * below(4)}, 2));
        int top = below(3) == 0 ? 10 : 4;
        for (int y = below(rows + 1); y > 0; y--) {
            StringBuilder row = new StringBuilder("r");
            for (int x = below(5) == 0 ? below(wide + 1) : wide; x > 0; x--) {
                row.append(blank()).append(below(top));
            }
            clauses.add(row.toString());
        }
        for (int t = 1 + below(4); t > 0; t--) {
            clauses.add("t" + items("xyml", new int[] {below(wide), below(rows), below(10), below(2) == 0 ? 9 : below(10)},
                    0));
        }
        Collections.shuffle(clauses, random);
        return joined(clauses);
    }

    /** The first sure ones of the letters are always there. */
    private String items(String letters, int[] values, int sure) {
        List<String> items = new ArrayList<>();
        for (int k = 0; k < letters.length(); k++) {
            if (k < sure || below(5) > 0) {
                String zero = values[k] < 10 && below(10) == 0 ? "0" : "";
                items.add(blank() + letters.charAt(k) + blank() + zero + values[k] + blank());
            }
        }
        Collections.shuffle(items, random);
        return String.join("", items);
    }

    private String joined(List<String> clauses) {
        StringBuilder text = new StringBuilder();
        for (String clause : clauses) {
            text.append(text.length() == 0 ? "" : ";").append(blank()).append(clause);
        }
        return text.append(blank()).toString();
    }

    String law() {
        for (int tries = 0; tries < 100; tries++) {
            List<String> clauses = new ArrayList<>();
            for (int k = 1 + below(4); k > 0; k--) {
                String condition = below(4) > 0 ? condition(0) + blank() + "?" : "";
                clauses.add("y" + blank() + ":" + blank() + condition + blank() + sum(0));
            }
            String text = joined(clauses);
            if (text.length() <= 240) {
                return text;
            }
        }
        return "y:l";
    }

    private String condition(int depth) {
        String text = truth(depth);
        while (below(4) == 0) {
            text += blank() + "|" + truth(depth);
        }
        return text;
    }

    private String truth(int depth) {
        String text = unit(depth);
        while (below(4) == 0) {
            text += blank() + "&" + unit(depth);
        }
        return text;
    }

    private String unit(int depth) {
        int sort = depth < 7 ? below(6) : 5;
        if (sort == 0) {
            return blank() + "!" + unit(depth + 1);
        }
        if (sort == 1) {
            return blank() + "(" + condition(depth + 1) + blank() + ")";
        }
        return sum(depth) + blank() + "=<>".charAt(below(3)) + sum(depth);
    }

    private String sum(int depth) {
        String text = term(depth);
        while (below(3) == 0) {
            text += blank() + "+-".charAt(below(2)) + term(depth);
        }
        return text;
    }

    private String term(int depth) {
        String text = atom(depth);
        while (below(4) == 0) {
            text += blank() + "*/".charAt(below(2)) + atom(depth);
        }
        return text;
    }

    private String atom(int depth) {
        if (depth < 7 && below(7) == 0) {
            return blank() + "[" + sum(depth + 1) + blank() + "]";
        }
        if (below(3) == 0) {
            return blank() + (below(3) == 0 ? "" + below(10000) : below(9) == 0 ? "00" + below(10) : "" + below(12));
        }
        return blank() + "lfhgmn".charAt(below(6));
    }

    /** A byte or two changed, put in or left out. */
    String spoiled(String text) {
        StringBuilder other = new StringBuilder(text);
        String signs = " ;srtwhkfxyml0123456789y:?!()[]=<>+-*/&|lfhgmnz" + (char) 233;
        for (int k = 1 + below(2); k > 0; k--) {
            int at = below(other.length() + 1);
            char sign = signs.charAt(below(signs.length()));
            int how = below(4);
            if (how == 0 || at == other.length()) {
                other.insert(at, sign);
            } else if (how == 1) {
                other.deleteCharAt(at);
            } else if (how == 2) {
                other.setCharAt(at, sign);
            } else {
                other.setLength(at);
            }
        }
        other.setLength(Math.min(240, other.length()));
        return other.toString();
    }
}
