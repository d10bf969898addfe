import java.util.ArrayList;
import java.util.List;

/** A LAND at one time, slow and plain: fractions as doubles, bits as lists. */
final class ModelLand implements Cloneable {
    int wide = 4;
    int rows = 3;
    int coins = 20;
    int fog = 0;
    int hour = 0;
    int[] height;
    int[] place;
    int[] mast;
    int[] lamp;
    boolean[] broken;
    List<int[]> log = new ArrayList<>();

    /** The FAULT of a text, or -1 when land (which may be null) has been filled. */
    static int fault(String text, ModelLand land) {
        List<List<Integer>> rowsTold = new ArrayList<>();
        List<int[]> towersTold = new ArrayList<>();
        int[] rules = {4, 3, 20, 0};
        boolean rulesTold = false;
        int at = 0;
        boolean wantsClause = true;
        char sort = 0;
        String seen = "";
        while (at < text.length()) {
            char c = text.charAt(at);
            if (c == ' ') {
                at++;
                continue;
            }
            if (wantsClause) {
                boolean fine = (c == 's' && !rulesTold) || (c == 'r' && rowsTold.size() < 5)
                        || (c == 't' && towersTold.size() < 4);
                if (!fine) {
                    return at;
                }
                sort = c;
                seen = "";
                wantsClause = false;
                if (c == 's') {
                    rulesTold = true;
                } else if (c == 'r') {
                    rowsTold.add(new ArrayList<>());
                } else {
                    towersTold.add(new int[] {0, 0, 2, 9});
                }
                at++;
                continue;
            }
            if (c == ';') {
                wantsClause = true;
                at++;
                continue;
            }
            if (sort == 'r') {
                List<Integer> row = rowsTold.get(rowsTold.size() - 1);
                if (c < '0' || c > '9' || row.size() == 6) {
                    return at;
                }
                row.add(c - '0');
                at++;
                continue;
            }
            int item = (sort == 's' ? "whkf" : "xyml").indexOf(c);
            if (item < 0 || seen.indexOf(c) >= 0) {
                return at;
            }
            seen += c;
            at++;
            while (at < text.length() && text.charAt(at) == ' ') {
                at++;
            }
            int behind = at;
            while (behind < text.length() && Character.isDigit(text.charAt(behind))) {
                behind++;
            }
            if (behind == at) {
                return at;
            }
            if (behind - at > 2) {
                return at + 2;
            }
            int value = Integer.parseInt(text.substring(at, behind));
            int[] least = sort == 's' ? new int[] {2, 2, 0, 0} : new int[] {0, 0, 0, 0};
            int[] most = sort == 's' ? new int[] {6, 5, 99, 9} : new int[] {5, 4, 9, 9};
            if (value < least[item] || value > most[item]) {
                return behind - 1;
            }
            (sort == 's' ? rules : towersTold.get(towersTold.size() - 1))[item] = value;
            at = behind;
        }
        boolean fine = !wantsClause && towersTold.size() > 0 && rowsTold.size() <= rules[1];
        for (List<Integer> row : rowsTold) {
            fine &= row.size() <= rules[0];
        }
        for (int[] tower : towersTold) {
            fine &= tower[0] < rules[0] && tower[1] < rules[1];
        }
        if (!fine) {
            return text.length();
        }
        if (land != null) {
            land.lay(rules, rowsTold, towersTold);
        }
        return -1;
    }

    private void lay(int[] rules, List<List<Integer>> rowsTold, List<int[]> towersTold) {
        wide = rules[0];
        rows = rules[1];
        coins = rules[2];
        fog = rules[3];
        height = new int[wide * rows];
        for (int y = 0; y < rowsTold.size(); y++) {
            for (int x = 0; x < rowsTold.get(y).size(); x++) {
                height[y * wide + x] = rowsTold.get(y).get(x);
            }
        }
        int n = towersTold.size();
        place = new int[n];
        mast = new int[n];
        lamp = new int[n];
        broken = new boolean[n];
        for (int t = 0; t < n; t++) {
            int[] tower = towersTold.get(t);
            place[t] = tower[1] * wide + tower[0];
            mast[t] = tower[2];
            lamp[t] = tower[3];
        }
    }

    ModelLand copy() {
        try {
            ModelLand other = (ModelLand) clone();
            other.height = height.clone();
            other.place = place.clone();
            other.mast = mast.clone();
            other.lamp = lamp.clone();
            other.broken = broken.clone();
            other.log = new ArrayList<>(log);
            return other;
        } catch (CloneNotSupportedException e) {
            throw new IllegalStateException(e);
        }
    }

    int cells() {
        return height.length;
    }

    int towers() {
        return place.length;
    }

    int reach(int t, String law) {
        if (law == null) {
            return lamp[t];
        }
        int[] values = {lamp[t], fog, hour % 24, height[place[t]], mast[t], towers()};
        return Math.max(0, Math.min(9, ModelLaw.worth(law, values)));
    }

    boolean sees(int t, int cell, String law) {
        return looks(place[t], mast[t], reach(t, law), cell);
    }

    boolean looks(int from, int mastThere, int reach, int cell) {
        double eye = height[from] + mastThere;
        double x0 = from % wide;
        double y0 = from / wide;
        double dx = cell % wide - x0;
        double dy = cell / wide - y0;
        int n = (int) Math.max(Math.abs(dx), Math.abs(dy));
        if (height[cell] < fog || n > reach) {
            return false;
        }
        for (int i = 1; i < n; i++) {
            int x = (int) Math.floor(x0 + i * dx / n + 0.5 + 1e-9);
            int y = (int) Math.floor(y0 + i * dy / n + 0.5 + 1e-9);
            double line = eye + i * (height[cell] - eye) / n;
            if (height[y * wide + x] > line + 1e-9) {
                return false;
            }
        }
        return true;
    }

    int howManySee(int cell, String law) {
        int found = 0;
        for (int t = 0; t < towers(); t++) {
            found += sees(t, cell, law) ? 1 : 0;
        }
        return found;
    }

    boolean hid(int cell, String law) {
        return howManySee(cell, law) == 0;
    }

    int hidCount(String law) {
        int found = 0;
        for (int c = 0; c < cells(); c++) {
            found += hid(c, law) ? 1 : 0;
        }
        return found;
    }

    int brokenBits() {
        int bits = 0;
        for (int t = 0; t < towers(); t++) {
            bits += broken[t] ? 1 << t : 0;
        }
        return bits;
    }

    void passHour(String law) {
        log.add(0, new int[] {hidCount(law), brokenBits(), fog});
        while (log.size() > 60) {
            log.remove(60);
        }
        fog = Math.max(0, fog - 1);
        coins = Math.min(999, coins + 1);
        hour++;
    }

    List<Integer> beside(int cell) {
        List<Integer> found = new ArrayList<>();
        for (int other = 0; other < cells(); other++) {
            int apart = Math.abs(other % wide - cell % wide) + Math.abs(other / wide - cell / wide);
            if (apart == 1) {
                found.add(other);
            }
        }
        return found;
    }
}
