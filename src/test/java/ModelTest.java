import java.util.ArrayList;
import java.util.HashSet;
import java.util.List;
import java.util.Random;
import java.util.Set;

/** Long runs of calls, good and bad, against a model that is written another way. */
public final class ModelTest {
    private static final int RUNS = 120;
    private static final int CALLS = 512;

    private static int wrong = 0;

    public static void main(String[] args) {
        for (int run = 0; run < RUNS; run++) {
            // A fixed seed, so that every run of this test makes the same calls.
            play(run, new Random(7919L * run + 1));
        }
        everyCode();
        System.out.println(wrong == 0 ? "class and model agree" : wrong + " answers differ");
        if (wrong != 0) {
            System.exit(1);
        }
    }

    private static void play(int run, Random random) {
        int n = 2 + run % 6;
        TourBounds x = new TourBounds(n);
        Model m = new Model(n);
        int topPrice = run % 3 == 0 ? 3 : 40;
        for (int call = 0; call < CALLS; call++) {
            int a = random.nextInt(20) == 0 ? odd(random) : random.nextInt(n);
            int b = random.nextInt(20) == 0 ? odd(random) : random.nextInt(n);
            int v = random.nextInt(12) == 0 ? odd(random) : random.nextInt(topPrice + 1);
            int w = random.nextInt(12) == 0 ? odd(random) : random.nextInt(41);
            int how = random.nextInt(9) == 0 ? odd(random) : mark(random);
            int code = random.nextInt(3) == 0 ? random.nextInt(130000) - 5 : m.someCode(random);
            int limit = random.nextInt(9) == 0 ? odd(random) : random.nextInt(45 * n);
            String at = "run " + run + " (n = " + n + ") call " + call + ": ";
            String ab = "(" + a + ", " + b + ")";
            switch (random.nextInt(20)) {
                case 0 -> due(at + "towns", x.towns(), n);
                case 1, 2 -> due(at + "price" + ab + v, x.price(a, b, v), m.price(a, b, v));
                case 3 -> due(at + "line " + v + " " + w, x.line(v, w), m.line(v, w));
                case 4 -> due(at + "sow " + v + " " + w, x.sow(v, w), m.sow(v, w));
                case 5, 6, 7 -> due(at + "mark" + ab + how, x.mark(a, b, how), m.mark(a, b, how));
                case 8 -> due(at + "priceOf" + ab, x.priceOf(a, b), m.priceOf(a, b));
                case 9 -> due(at + "best", x.best(), m.best());
                case 10 -> due(at + "bestCode", x.bestCode(), m.bestCode());
                case 11 -> due(at + "bestTours", x.bestTours(), m.bestTours());
                case 12 -> due(at + "allowed", x.allowed(), m.within(Integer.MAX_VALUE));
                case 13 -> due(at + "priceOfTour " + code, x.priceOfTour(code), m.priceOfTour(code));
                case 14 -> due(at + "isAllowed " + code, x.isAllowed(code), m.isAllowed(code));
                case 15 -> due(at + "within " + limit, x.within(limit), m.within(limit));
                case 16 -> due(at + "path" + ab, x.path(a, b), m.path(a, b));
                case 17 -> due(at + "bestPath", x.bestPath(), m.bestPath());
                case 18 -> due(at + "span", x.span(), m.span());
                default -> due(at + "worth" + ab, x.worth(a, b), m.worth(a, b));
            }
        }
    }

    /** Mostly open, or no tour would be allowed for most of a run. */
    private static int mark(Random random) {
        int r = random.nextInt(10);
        return r < 6 ? 0 : r < 7 ? 1 : 2;
    }

    private static int odd(Random random) {
        int[] values = {
            Integer.MIN_VALUE, -42, -41, -1, 0, 1, 2, 3, 6, 7, 8, 40, 41, 42, 1 << 16, Integer.MAX_VALUE
        };
        return values[random.nextInt(values.length)];
    }

    private static void everyCode() {
        for (int n = 2; n <= 7; n++) {
            Model m = new Model(n);
            m.sow(11, 5);
            m.mark(0, 1, 1);
            Set<Integer> codes = new HashSet<>();
            for (int i = 0; i < m.tours.size(); i++) {
                codes.add(Model.codeOf(m.tours.get(i)));
            }
            TourBounds x = sown(n);
            for (int code = -100; code < 120000; code++) {
                // No object is promised to answer more than 512 calls.
                x = code % 200 == 0 ? sown(n) : x;
                boolean is = codes.contains(code);
                due("n = " + n + " priceOfTour " + code, x.priceOfTour(code), is ? m.priceOfTour(code) : -1);
                due("n = " + n + " isAllowed " + code, x.isAllowed(code), is ? m.isAllowed(code) : -1);
            }
        }
    }

    private static TourBounds sown(int n) {
        TourBounds x = new TourBounds(n);
        x.sow(11, 5);
        x.mark(0, 1, 1);
        return x;
    }

    private static void due(String call, int got, int want) {
        if (got != want) {
            wrong++;
            if (wrong <= 50) {
                System.out.println(call + " answered " + got + ", due is " + want);
            }
        }
    }

    /** The document in plain words: whole tables, tours as lists, sets of roads tried one by one. */
    private static final class Model {
        final int n;
        final int[][] prices;
        final int[][] marks;
        final List<List<Integer>> tours = new ArrayList<>();

        Model(int n) {
            this.n = n;
            prices = new int[n][n];
            marks = new int[n][n];
            for (int a = 0; a < n; a++) {
                for (int b = 0; b < n; b++) {
                    prices[a][b] = a == b ? 0 : 10;
                }
            }
            collect(new ArrayList<>());
        }

        private void collect(List<Integer> begun) {
            if (begun.size() == n - 1) {
                tours.add(new ArrayList<>(begun));
                return;
            }
            for (int t = n - 1; t >= 1; t--) {
                if (!begun.contains(t)) {
                    begun.add(t);
                    collect(begun);
                    begun.remove(begun.size() - 1);
                }
            }
        }

        int someCode(Random random) {
            return codeOf(tours.get(random.nextInt(tours.size())));
        }

        static int codeOf(List<Integer> tour) {
            StringBuilder digits = new StringBuilder();
            for (int t : tour) {
                digits.append(t);
            }
            return Integer.parseInt(digits.toString(), 7);
        }

        private List<Integer> tourOf(int code) {
            for (List<Integer> tour : tours) {
                if (codeOf(tour) == code) {
                    return tour;
                }
            }
            return null;
        }

        private int pairFault(int a, int b) {
            return a < 0 || a >= n || b < 0 || b >= n ? -1 : a == b ? -2 : 0;
        }

        int price(int a, int b, int price) {
            if (pairFault(a, b) != 0) {
                return pairFault(a, b);
            }
            if (price < 0 || price > 40) {
                return -3;
            }
            int before = prices[a][b];
            prices[a][b] = price;
            prices[b][a] = price;
            return before;
        }

        int line(int seed, int step) {
            if (seed < 0 || seed > 40) {
                return -1;
            }
            if (step < 0 || step > 40) {
                return -2;
            }
            for (int a = 0; a < n; a++) {
                for (int b = 0; b < n; b++) {
                    prices[a][b] = Math.abs((seed + a * step) % 41 - (seed + b * step) % 41);
                }
            }
            return 0;
        }

        int sow(int seed, int bend) {
            if (seed < 0 || seed > 40) {
                return -1;
            }
            if (bend < 0 || bend > 40) {
                return -2;
            }
            for (int a = 0; a < n; a++) {
                for (int b = a + 1; b < n; b++) {
                    prices[a][b] = (seed + 13 * a + 17 * b + a * b * bend) % 41;
                    prices[b][a] = prices[a][b];
                }
            }
            return 0;
        }

        int mark(int a, int b, int how) {
            if (pairFault(a, b) != 0) {
                return pairFault(a, b);
            }
            if (how < 0 || how > 2) {
                return -3;
            }
            int before = marks[a][b];
            marks[a][b] = how;
            marks[b][a] = how;
            return before;
        }

        int priceOf(int a, int b) {
            int fault = pairFault(a, b);
            return fault == -1 ? -1 : fault == -2 ? 0 : prices[a][b];
        }

        private int sum(List<Integer> tour) {
            int at = 0;
            int sum = 0;
            for (int t : tour) {
                sum += prices[at][t];
                at = t;
            }
            return sum + prices[at][0];
        }

        private boolean fits(List<Integer> tour) {
            boolean[][] used = new boolean[n][n];
            int at = 0;
            for (int i = 0; i < n; i++) {
                int to = i < n - 1 ? tour.get(i) : 0;
                used[at][to] = true;
                used[to][at] = true;
                at = to;
            }
            for (int a = 0; a < n; a++) {
                for (int b = 0; b < n; b++) {
                    if (marks[a][b] == 2 && used[a][b] || marks[a][b] == 1 && !used[a][b]) {
                        return false;
                    }
                }
            }
            return true;
        }

        int best() {
            int least = -1;
            for (List<Integer> tour : tours) {
                if (fits(tour) && (least < 0 || sum(tour) < least)) {
                    least = sum(tour);
                }
            }
            return least;
        }

        int bestCode() {
            int least = best();
            int code = -1;
            for (List<Integer> tour : tours) {
                if (fits(tour) && sum(tour) == least && (code < 0 || codeOf(tour) < code)) {
                    code = codeOf(tour);
                }
            }
            return code;
        }

        int bestTours() {
            int least = best();
            int count = 0;
            for (List<Integer> tour : tours) {
                count += fits(tour) && sum(tour) == least ? 1 : 0;
            }
            return count;
        }

        int within(int limit) {
            int count = 0;
            for (List<Integer> tour : tours) {
                count += fits(tour) && sum(tour) <= limit ? 1 : 0;
            }
            return count;
        }

        int priceOfTour(int code) {
            List<Integer> tour = tourOf(code);
            return tour == null ? -1 : sum(tour);
        }

        int isAllowed(int code) {
            List<Integer> tour = tourOf(code);
            return tour == null ? -1 : fits(tour) ? 1 : 0;
        }

        int path(int a, int b) {
            if (pairFault(a, b) != 0) {
                return pairFault(a, b);
            }
            int least = walk(a, b, 1 << a);
            return least == Integer.MAX_VALUE ? -3 : least;
        }

        private int walk(int at, int to, int seen) {
            if (at == to) {
                return seen == (1 << n) - 1 ? 0 : Integer.MAX_VALUE;
            }
            int least = Integer.MAX_VALUE;
            for (int t = 0; t < n; t++) {
                if ((seen >> t & 1) == 0 && marks[at][t] != 2) {
                    int rest = walk(t, to, seen | 1 << t);
                    if (rest != Integer.MAX_VALUE) {
                        least = Math.min(least, prices[at][t] + rest);
                    }
                }
            }
            return least;
        }

        int bestPath() {
            int least = -3;
            for (int a = 0; a < n; a++) {
                for (int b = 0; b < n; b++) {
                    int found = path(a, b);
                    if (found >= 0 && (least < 0 || found < least)) {
                        least = found;
                    }
                }
            }
            return least;
        }

        /** Takes the cheapest road between two groups of towns until there is one group. */
        int span() {
            int[] group = new int[n];
            for (int t = 0; t < n; t++) {
                group[t] = t;
            }
            int sum = 0;
            int groups = n;
            for (int price = 0; price <= 40; price++) {
                for (int a = 0; a < n; a++) {
                    for (int b = a + 1; b < n; b++) {
                        if (prices[a][b] == price && marks[a][b] != 2 && group[a] != group[b]) {
                            int gone = group[b];
                            for (int t = 0; t < n; t++) {
                                group[t] = group[t] == gone ? group[a] : group[t];
                            }
                            sum += price;
                            groups--;
                        }
                    }
                }
            }
            return groups == 1 ? sum : -3;
        }

        int worth(int a, int b) {
            if (pairFault(a, b) != 0) {
                return pairFault(a, b);
            }
            int now = best();
            if (now < 0) {
                return -3;
            }
            if (marks[a][b] == 1) {
                return -4;
            }
            int before = mark(a, b, 2);
            int then = best();
            mark(a, b, before);
            return then < 0 ? -4 : then - now;
        }
    }
}
