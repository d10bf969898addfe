/** Puts a text on the TAPE, twenty bytes a call. */
final class Texts {
    private Texts() {
    }

    static int[] words(String text, int from) {
        int[] words = new int[5];
        for (int k = 0; k < 20 && from + k < text.length(); k++) {
            words[k / 4] |= (text.charAt(from + k) & 255) << 24 - 8 * (k % 4);
        }
        return words;
    }

    static int feed(BlindSpots x, String text) {
        int answer = x.count(3);
        for (int from = 0; from < text.length(); from += 20) {
            int[] w = words(text, from);
            answer = x.feed(w[0], w[1], w[2], w[3], w[4]);
        }
        return answer;
    }

    /** The FAULT of a text on an empty TAPE, which is empty again then. */
    static int fault(BlindSpots x, int sort, String text) {
        x.end(0);
        feed(x, text);
        int answer = x.fault(sort);
        x.end(0);
        return answer;
    }

    static BlindSpots land(String text) {
        BlindSpots x = new BlindSpots();
        feed(x, text);
        if (x.text(0) < 0) {
            throw new IllegalArgumentException("no LAND: " + text + ", FAULT at " + x.fault(0));
        }
        return x;
    }

    /** The LAW is told and holds. */
    static int law(BlindSpots x, String text) {
        x.end(0);
        feed(x, text);
        int number = x.text(1);
        if (number < 0 || !x.law(number)) {
            throw new IllegalArgumentException("no LAW: " + text + ", FAULT at " + x.fault(1));
        }
        return number;
    }
}
