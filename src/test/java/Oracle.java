import java.util.ArrayList;
import java.util.List;

/**
 * What is due, found in other ways than the class finds it: permutations are strings, and
 * whether one is below another is told without any walk by steps. (In order 1, P is below
 * Q just if every pair of numbers that is inverted in P is so in Q; in order 0, just if for
 * each m and v the first m places of Q have no fewer numbers from v up than those of P.)
 */
final class Oracle {
    final int n;
    final List<String> all = new ArrayList<>();
    private final boolean[][][] below;
    private final long[][][] ways;
    private final long[][][] signs;

    Oracle(int n) {
        this.n = n;
        extend("");
        int size = all.size();
        below = new boolean[2][size][size];
        ways = new long[2][size][size];
        signs = new long[2][size][size];
        for (int o = 0; o < 2; o++) {
            fillBelow(o);
            fillWays(o);
            fillSigns(o);
        }
    }

    private void extend(String begun) {
        if (begun.length() == n) {
            all.add(begun);
            return;
        }
        for (char c = '1'; c < '1' + n; c++) {
            if (begun.indexOf(c) < 0) {
                extend(begun + c);
            }
        }
    }

    private void fillBelow(int o) {
        for (int p = 0; p < all.size(); p++) {
            for (int q = 0; q < all.size(); q++) {
                below[o][p][q] = o == 0 ? countsBelow(all.get(p), all.get(q)) : pairsBelow(all.get(p), all.get(q));
            }
        }
    }

    private boolean countsBelow(String p, String q) {
        for (int m = 1; m <= n; m++) {
            for (char v = '1'; v < '1' + n; v++) {
                char least = v;
                if (p.substring(0, m).chars().filter(c -> c >= least).count()
                        > q.substring(0, m).chars().filter(c -> c >= least).count()) {
                    return false;
                }
            }
        }
        return true;
    }

    private boolean pairsBelow(String p, String q) {
        for (char a = '1'; a < '1' + n; a++) {
            for (char b = (char) (a + 1); b < '1' + n; b++) {
                if (p.indexOf(b) < p.indexOf(a) && q.indexOf(b) > q.indexOf(a)) {
                    return false;
                }
            }
        }
        return true;
    }

    /** Ways are counted by their last step: from every R that differs from Q by one exchange. */
    private void fillWays(int o) {
        List<Integer> byInversions = new ArrayList<>();
        for (int k = 0; k < all.size(); k++) {
            byInversions.add(k);
        }
        byInversions.sort((a, b) -> inversions(all.get(a)) - inversions(all.get(b)));
        for (int p = 0; p < all.size(); p++) {
            for (int q : byInversions) {
                long sum = p == q ? 1 : 0;
                for (int r = 0; r < all.size(); r++) {
                    if (isSingleStep(all.get(r), all.get(q), o)) {
                        sum += ways[o][p][r];
                    }
                }
                ways[o][p][q] = sum;
            }
        }
    }

    private void fillSigns(int o) {
        for (int p = 0; p < all.size(); p++) {
            for (int q = 0; q < all.size(); q++) {
                long sum = 0;
                for (int r = 0; r < q; r++) {
                    if (below[o][p][r] && below[o][r][q]) {
                        sum += signs[o][p][r];
                    }
                }
                signs[o][p][q] = p == q ? 1 : below[o][p][q] ? -sum : 0;
            }
        }
    }

    boolean isSingleStep(String p, String q, int o) {
        int first = -1;
        int last = -1;
        int unlike = 0;
        for (int i = 0; i < n; i++) {
            if (p.charAt(i) != q.charAt(i)) {
                unlike++;
                first = first < 0 ? i : first;
                last = i;
            }
        }
        return unlike == 2 && (o == 0 || last == first + 1) && inversions(q) == inversions(p) + 1;
    }

    static int inversions(String p) {
        int found = 0;
        for (int i = 0; i < p.length(); i++) {
            for (int j = i + 1; j < p.length(); j++) {
                found += p.charAt(i) > p.charAt(j) ? 1 : 0;
            }
        }
        return found;
    }

    static int code(String p) {
        return Integer.parseInt(p);
    }

    String exchange(String p, int i, int j) {
        char[] c = p.toCharArray();
        c[i] = p.charAt(j);
        c[j] = p.charAt(i);
        return new String(c);
    }

    String invert(String p) {
        StringBuilder made = new StringBuilder();
        for (char v = '1'; v < '1' + n; v++) {
            made.append(p.indexOf(v) + 1);
        }
        return made.toString();
    }

    String reverse(String p) {
        return new StringBuilder(p).reverse().toString();
    }

    String multiply(String p, String q) {
        StringBuilder made = new StringBuilder();
        for (char c : q.toCharArray()) {
            made.append(p.charAt(c - '1'));
        }
        return made.toString();
    }

    String meet(String p, String q) {
        int a = all.indexOf(p);
        int b = all.indexOf(q);
        String met = null;
        for (int m = 0; m < all.size(); m++) {
            boolean fits = below[1][m][a] && below[1][m][b];
            for (int r = 0; r < all.size() && fits; r++) {
                fits = !(below[1][r][a] && below[1][r][b]) || below[1][r][m];
            }
            met = fits ? all.get(m) : met;
        }
        return met;
    }

    String join(String p, String q) {
        int a = all.indexOf(p);
        int b = all.indexOf(q);
        String joined = null;
        for (int m = 0; m < all.size(); m++) {
            boolean fits = below[1][a][m] && below[1][b][m];
            for (int r = 0; r < all.size() && fits; r++) {
                fits = !(below[1][a][r] && below[1][b][r]) || below[1][m][r];
            }
            joined = fits ? all.get(m) : joined;
        }
        return joined;
    }

    int below(String p, String q, int o) {
        return below[o][all.indexOf(p)][all.indexOf(q)] ? 1 : 0;
    }

    int interval(String p, String q, int o) {
        int a = all.indexOf(p);
        int b = all.indexOf(q);
        int size = 0;
        for (int r = 0; r < all.size(); r++) {
            size += below[o][a][r] && below[o][r][b] ? 1 : 0;
        }
        return size;
    }

    long ways(String p, String q, int o) {
        return ways[o][all.indexOf(p)][all.indexOf(q)];
    }

    long sign(String p, String q, int o) {
        return signs[o][all.indexOf(p)][all.indexOf(q)];
    }

    int steps(String p, int o) {
        int found = 0;
        for (String q : all) {
            found += isSingleStep(p, q, o) ? 1 : 0;
        }
        return found;
    }
}
