import java.util.function.IntSupplier;

/** Each promise with answers worked out by hand: ordinary inputs, edges and wrong inputs. */
public final class PromiseTest {
    private static final int LOWEST = Integer.MIN_VALUE;
    private static final int HIGHEST = Integer.MAX_VALUE;

    private static int wrong = 0;

    public static void main(String[] args) {
        newObject();
        price();
        line();
        sow();
        mark();
        priceOf();
        best();
        bestCode();
        bestTours();
        allowed();
        priceOfTour();
        isAllowed();
        within();
        path();
        bestPath();
        span();
        worth();
        questionsChangeNothing();
        objectsStandApart();
        System.out.println(wrong == 0 ? "all promises hold" : wrong + " answers are not as due");
        if (wrong != 0) {
            System.exit(1);
        }
    }

    private static void due(String call, int got, int want) {
        if (got != want) {
            wrong++;
            System.out.println(call + " answered " + got + ", due is " + want);
        }
    }

    /** Prices 1-2: 1, 2-3: 2, 0-3: 3, 0-1: 4, 0-2: 20, 1-3: 30. */
    private static TourBounds square() {
        TourBounds x = new TourBounds(4);
        x.price(1, 2, 1);
        x.price(2, 3, 2);
        x.price(3, 0, 3);
        x.price(0, 1, 4);
        x.price(0, 2, 20);
        x.price(1, 3, 30);
        return x;
    }

    private static int code(int... towns) {
        int code = 0;
        for (int town : towns) {
            code = code * 7 + town;
        }
        return code;
    }

    // Promises 1 and 2
    private static void newObject() {
        int[] given = {LOWEST, -1, 0, 1, 2, 3, 4, 5, 6, 7, 8, 100, HIGHEST};
        int[] want = {2, 2, 2, 2, 2, 3, 4, 5, 6, 7, 7, 7, 7};
        int[] tours = {0, 0, 1, 2, 6, 24, 120, 720};
        for (int i = 0; i < given.length; i++) {
            TourBounds x = new TourBounds(given[i]);
            int n = want[i];
            String of = "new of " + given[i] + ": ";
            due(of + "towns", x.towns(), n);
            due(of + "best", x.best(), 10 * n);
            due(of + "allowed", x.allowed(), tours[n]);
            due(of + "bestTours", x.bestTours(), tours[n]);
            due(of + "span", x.span(), 10 * (n - 1));
            due(of + "bestPath", x.bestPath(), 10 * (n - 1));
            for (int a = 0; a < n; a++) {
                for (int b = 0; b < n; b++) {
                    due(of + "priceOf", x.priceOf(a, b), a == b ? 0 : 10);
                    due(of + "mark", x.mark(a, b, 0), a == b ? -2 : 0);
                }
            }
            due(of + "no town n", x.priceOf(0, n), -1);
        }
    }

    // Promise 3
    private static void price() {
        TourBounds x = new TourBounds(3);
        due("price(2, 1, 40)", x.price(2, 1, 40), 10);
        due("price(1, 2, 0)", x.price(1, 2, 0), 40);
        due("price(1, 2, 5)", x.price(1, 2, 5), 0);
        int[] bad = {LOWEST, -1, 3, 7, HIGHEST};
        for (int town : bad) {
            due("price bad a " + town, x.price(town, 0, 5), -1);
            due("price bad b " + town, x.price(0, town, 5), -1);
            due("price bad same " + town, x.price(town, town, 41), -1);
        }
        due("price(2, 2, 41)", x.price(2, 2, 41), -2);
        due("price(0, 0, 5)", x.price(0, 0, 5), -2);
        int[] badPrices = {LOWEST, -1, 41, HIGHEST};
        for (int p : badPrices) {
            due("price of " + p, x.price(1, 2, p), -3);
        }
        due("priceOf(2, 1) after refusals", x.priceOf(2, 1), 5);
        due("priceOf(0, 1) untouched", x.priceOf(0, 1), 10);
        due("priceOf(0, 2) untouched", x.priceOf(0, 2), 10);
    }

    // Promise 4
    private static void line() {
        TourBounds x = new TourBounds(7);
        x.mark(0, 1, 2);
        due("line(0, 20)", x.line(0, 20), 0);
        // The line is no ring: places 0 and 40 are 40 apart.
        int[] places = {0, 20, 40, 19, 39, 18, 38};
        dueOnLine("line(0, 20)", x, places);
        due("line leaves marks", x.mark(0, 1, 0), 2);
        int[] badValues = {LOWEST, -1, 41, HIGHEST};
        for (int v : badValues) {
            due("line seed " + v, x.line(v, 5), -1);
            due("line seed and step " + v, x.line(v, v), -1);
            due("line step " + v, x.line(5, v), -2);
        }
        dueOnLine("line refused", x, places);
        due("line(40, 40)", x.line(40, 40), 0);
        dueOnLine("line(40, 40)", x, new int[] {40, 39, 38, 37, 36, 35, 34});
        due("line(40, 1)", x.line(40, 1), 0);
        dueOnLine("line(40, 1)", x, new int[] {40, 0, 1, 2, 3, 4, 5});
        due("line(0, 0)", x.line(0, 0), 0);
        dueOnLine("line(0, 0)", x, new int[7]);
    }

    private static void dueOnLine(String call, TourBounds x, int[] places) {
        for (int a = 0; a < places.length; a++) {
            for (int b = 0; b < places.length; b++) {
                due(call + " priceOf(" + a + ", " + b + ")", x.priceOf(a, b),
                        Math.abs(places[a] - places[b]));
            }
        }
    }

    // Promise 5
    private static void sow() {
        TourBounds x = new TourBounds(7);
        x.mark(3, 4, 1);
        due("sow(0, 0)", x.sow(0, 0), 0);
        due("sow(0, 0) 0-1", x.priceOf(0, 1), 17);
        due("sow(0, 0) 2-0", x.priceOf(2, 0), 34);
        due("sow(0, 0) 1-2", x.priceOf(1, 2), 6);
        due("sow(0, 0) 2-1", x.priceOf(2, 1), 6);
        due("sow leaves marks", x.mark(3, 4, 0), 1);
        due("sow(40, 40)", x.sow(40, 40), 0);
        due("sow(40, 40) 5-6", x.priceOf(5, 6), 13);
        due("sow(40, 40) 0-1", x.priceOf(0, 1), 16);
        due("sow(40, 40) 0-6", x.priceOf(0, 6), 19);
        due("sow(40, 40) 3-2", x.priceOf(3, 2), 29);
        int[] badValues = {LOWEST, -1, 41, HIGHEST};
        for (int v : badValues) {
            due("sow seed " + v, x.sow(v, 5), -1);
            due("sow seed and bend " + v, x.sow(v, v), -1);
            due("sow bend " + v, x.sow(5, v), -2);
        }
        due("sow refused 5-6", x.priceOf(5, 6), 13);
        due("sow refused 0-1", x.priceOf(0, 1), 16);
    }

    // Promise 6
    private static void mark() {
        TourBounds x = new TourBounds(3);
        for (int from = 0; from <= 2; from++) {
            for (int to = 0; to <= 2; to++) {
                x.mark(1, 2, from);
                due("mark to " + to, x.mark(2, 1, to), from);
                due("mark from " + to, x.mark(1, 2, 0), to);
            }
        }
        x.mark(1, 2, TourBounds.CLOSED);
        int[] bad = {LOWEST, -1, 3, 7, HIGHEST};
        for (int town : bad) {
            due("mark bad a " + town, x.mark(town, 0, 1), -1);
            due("mark bad b " + town, x.mark(0, town, 1), -1);
            due("mark bad same " + town, x.mark(town, town, 3), -1);
        }
        due("mark(1, 1, 3)", x.mark(1, 1, 3), -2);
        due("mark(0, 0, 1)", x.mark(0, 0, 1), -2);
        int[] badMarks = {LOWEST, -1, 3, HIGHEST};
        for (int how : badMarks) {
            due("mark as " + how, x.mark(1, 2, how), -3);
        }
        due("mark after refusals", x.mark(1, 2, 0), 2);
        due("mark of another road", x.mark(0, 1, 0), 0);
        x.mark(0, 1, 2);
        due("mark leaves prices", x.priceOf(0, 1), 10);
    }

    // Promise 7
    private static void priceOf() {
        TourBounds x = square();
        due("priceOf(1, 3)", x.priceOf(1, 3), 30);
        due("priceOf(3, 1)", x.priceOf(3, 1), 30);
        x.mark(1, 3, 2);
        due("priceOf a closed road", x.priceOf(3, 1), 30);
        for (int t = 0; t < 4; t++) {
            due("priceOf same", x.priceOf(t, t), 0);
        }
        int[] bad = {LOWEST, -1, 4, 7, HIGHEST};
        for (int town : bad) {
            due("priceOf bad a", x.priceOf(town, 0), -1);
            due("priceOf bad b", x.priceOf(0, town), -1);
            due("priceOf bad same", x.priceOf(town, town), -1);
        }
    }

    // Promise 8. The square's three rings: 0123 for 10, 0132 for 56, 0213 for 54.
    private static void best() {
        TourBounds x = square();
        due("best", x.best(), 10);
        x.mark(0, 1, 2);
        due("best without 0-1", x.best(), 54);
        x.mark(0, 1, 0);
        x.mark(0, 2, 1);
        due("best with 0-2", x.best(), 54);
        x.mark(0, 1, 1);
        due("best with 0-2 and 0-1", x.best(), 56);
        x.mark(0, 3, 1);
        due("best with three roads of 0", x.best(), -1);
        x.mark(0, 3, 2);
        due("best with 0-3 closed", x.best(), 56);
        x.mark(1, 3, 2);
        due("best with 1-3 closed too", x.best(), -1);
        TourBounds two = new TourBounds(2);
        two.price(0, 1, 40);
        due("best of two towns", two.best(), 80);
        two.price(0, 1, 0);
        due("best for nothing", two.best(), 0);
        two.mark(0, 1, 2);
        due("best of two towns, closed", two.best(), -1);
        // Required roads that close a ring too early.
        TourBounds five = new TourBounds(5);
        five.mark(0, 1, 1);
        five.mark(1, 2, 1);
        due("best with two joined roads", five.best(), 50);
        five.mark(0, 2, 1);
        due("best with a small ring", five.best(), -1);
    }

    // Promise 9
    private static void bestCode() {
        TourBounds x = square();
        due("bestCode", x.bestCode(), code(1, 2, 3));
        x.mark(0, 2, 1);
        due("bestCode with 0-2", x.bestCode(), code(2, 1, 3));
        x.mark(0, 1, 1);
        due("bestCode with 0-2, 0-1", x.bestCode(), code(1, 3, 2));
        x.mark(0, 3, 1);
        due("bestCode with none", x.bestCode(), -1);
        // Equal prices: the least code of all, also when the first tours are shut off.
        TourBounds even = new TourBounds(7);
        due("bestCode, all equal", even.bestCode(), code(1, 2, 3, 4, 5, 6));
        even.mark(0, 1, 2);
        due("bestCode, 0-1 closed", even.bestCode(), code(2, 1, 3, 4, 5, 6));
        even.mark(5, 6, 2);
        due("bestCode, 5-6 closed", even.bestCode(), code(2, 1, 3, 5, 4, 6));
        due("bestCode of two towns", new TourBounds(2).bestCode(), 1);
    }

    // Promise 10
    private static void bestTours() {
        TourBounds x = square();
        due("bestTours", x.bestTours(), 2);
        x.price(1, 3, 28);
        due("bestTours, dearer ones equal", x.bestTours(), 2);
        x.mark(0, 3, 2);
        due("bestTours, 0-3 closed", x.bestTours(), 2);
        x.mark(0, 1, 2);
        due("bestTours, none", x.bestTours(), 0);
        TourBounds even = new TourBounds(4);
        due("bestTours, all equal", even.bestTours(), 6);
        even.mark(1, 2, 2);
        due("bestTours, 1-2 closed", even.bestTours(), 2);
        // Closed tours of the same price do not count, nor do closed ones that are cheaper.
        even.price(1, 2, 0);
        due("bestTours, the closed road cheaper", even.bestTours(), 2);
        due("bestTours of two towns", new TourBounds(2).bestTours(), 1);
    }

    // Promise 11
    private static void allowed() {
        TourBounds x = new TourBounds(5);
        due("allowed", x.allowed(), 24);
        x.mark(1, 2, 1);
        due("allowed with 1-2", x.allowed(), 12);
        x.mark(1, 2, 2);
        due("allowed without 1-2", x.allowed(), 12);
        x.mark(0, 3, 1);
        x.mark(0, 4, 1);
        due("allowed, 3 and 4 beside 0", x.allowed(), 0);
        x.mark(1, 2, 0);
        due("allowed, 1-2 open again", x.allowed(), 4);
        x.price(0, 3, 40);
        due("allowed at any price", x.allowed(), 4);
        TourBounds two = new TourBounds(2);
        two.mark(0, 1, 1);
        due("allowed, the only road required", two.allowed(), 1);
        two.mark(0, 1, 2);
        due("allowed, the only road closed", two.allowed(), 0);
        TourBounds three = new TourBounds(3);
        three.mark(0, 1, 1);
        three.mark(0, 2, 1);
        three.mark(1, 2, 1);
        due("allowed, all of three required", three.allowed(), 2);
    }

    private static final int[] NO_CODES_OF_FOUR = {
        LOWEST, -1, 0, 1, HIGHEST,
        code(1, 2), code(1, 2, 3, 0), code(1, 2, 3, 1), code(1, 2, 4), code(1, 2, 0),
        code(1, 1, 2), code(3, 3, 3), code(1, 0, 2, 3), code(6, 1, 2, 3), code(4, 1, 2),
        -code(1, 2, 3), 343, 117649, code(1, 2, 3) + 2401,
    };

    // Promise 12
    private static void priceOfTour() {
        TourBounds x = square();
        x.mark(0, 1, 2);
        x.mark(1, 3, 1);
        due("priceOfTour 123", x.priceOfTour(code(1, 2, 3)), 10);
        due("priceOfTour 321", x.priceOfTour(code(3, 2, 1)), 10);
        due("priceOfTour 132", x.priceOfTour(code(1, 3, 2)), 56);
        due("priceOfTour 231", x.priceOfTour(code(2, 3, 1)), 56);
        due("priceOfTour 213", x.priceOfTour(code(2, 1, 3)), 54);
        due("priceOfTour 312", x.priceOfTour(code(3, 1, 2)), 54);
        for (int c : NO_CODES_OF_FOUR) {
            due("priceOfTour no tour " + c, x.priceOfTour(c), -1);
        }
        int tours = 0;
        for (int c = -10; c < 5000; c++) {
            // No object is promised to answer more than 512 calls.
            x = c % 500 == 0 ? square() : x;
            tours += x.priceOfTour(c) < 0 ? 0 : 1;
        }
        due("priceOfTour: how many codes", tours, 6);
        TourBounds two = new TourBounds(2);
        due("priceOfTour of two towns", two.priceOfTour(1), 20);
        due("priceOfTour(8) of two towns", two.priceOfTour(8), -1);
        TourBounds seven = new TourBounds(7);
        due("priceOfTour 654321", seven.priceOfTour(code(6, 5, 4, 3, 2, 1)), 70);
        due("priceOfTour 654320", seven.priceOfTour(code(6, 5, 4, 3, 2, 0)), -1);
        due("priceOfTour 1234567", seven.priceOfTour(code(1, 2, 3, 4, 5, 6, 7)), -1);
    }

    // Promise 13
    private static void isAllowed() {
        TourBounds x = square();
        due("isAllowed, all open", x.isAllowed(code(1, 3, 2)), 1);
        x.mark(0, 1, 2);
        due("isAllowed, first road closed", x.isAllowed(code(1, 3, 2)), 0);
        due("isAllowed, last road closed", x.isAllowed(code(2, 3, 1)), 0);
        due("isAllowed, closed road unused", x.isAllowed(code(2, 1, 3)), 1);
        x.mark(2, 1, 1);
        due("isAllowed, required road used", x.isAllowed(code(3, 1, 2)), 1);
        x.mark(0, 1, 1);
        due("isAllowed, required road unused", x.isAllowed(code(3, 1, 2)), 0);
        due("isAllowed, both required used", x.isAllowed(code(3, 2, 1)), 1);
        for (int c : NO_CODES_OF_FOUR) {
            due("isAllowed no tour " + c, x.isAllowed(c), -1);
        }
        TourBounds two = new TourBounds(2);
        two.mark(0, 1, 1);
        due("isAllowed of two towns, required", two.isAllowed(1), 1);
        two.mark(0, 1, 2);
        due("isAllowed of two towns, closed", two.isAllowed(1), 0);
    }

    // Promise 14
    private static void within() {
        TourBounds x = square();
        int[] limits = {LOWEST, -1, 0, 9, 10, 11, 53, 54, 55, 56, 57, HIGHEST};
        int[] want = {0, 0, 0, 0, 2, 2, 2, 4, 4, 6, 6, 6};
        for (int i = 0; i < limits.length; i++) {
            due("within " + limits[i], x.within(limits[i]), want[i]);
        }
        x.mark(1, 2, 2);
        due("within 55, 1-2 closed", x.within(55), 0);
        due("within 56, 1-2 closed", x.within(56), 2);
        x.mark(1, 2, 1);
        due("within all, 1-2 required", x.within(HIGHEST), 4);
        x.line(0, 0);
        due("within 0 for nothing", x.within(0), 4);
        due("within -1 for nothing", x.within(-1), 0);
    }

    // Promise 15
    private static void path() {
        TourBounds x = square();
        due("path(0, 1)", x.path(0, 1), 6);
        due("path(1, 0)", x.path(1, 0), 6);
        due("path(0, 3)", x.path(0, 3), 7);
        due("path(0, 2)", x.path(0, 2), 34);
        due("path(1, 3)", x.path(1, 3), 24);
        x.mark(0, 2, 1);
        x.mark(1, 3, 1);
        due("path, required roads play no part", x.path(0, 1), 6);
        x.mark(0, 2, 0);
        x.mark(1, 3, 0);
        x.mark(2, 3, 2);
        due("path(0, 1), 2-3 closed", x.path(0, 1), -3);
        due("path(1, 2), 2-3 closed", x.path(1, 2), 53);
        due("path(3, 2), 2-3 closed", x.path(3, 2), 8);
        due("path(0, 2), 2-3 closed", x.path(0, 2), 34);
        // A closed road between the ends hinders no path of more than two towns.
        x.mark(2, 3, 0);
        x.mark(0, 1, 2);
        due("path(0, 1), 0-1 closed", x.path(0, 1), 6);
        int[] bad = {LOWEST, -1, 4, 7, HIGHEST};
        for (int town : bad) {
            due("path bad a", x.path(town, 0), -1);
            due("path bad b", x.path(0, town), -1);
            due("path bad same", x.path(town, town), -1);
        }
        due("path(3, 3)", x.path(3, 3), -2);
        TourBounds two = new TourBounds(2);
        due("path of two towns", two.path(1, 0), 10);
        two.mark(0, 1, 2);
        due("path of two towns, closed", two.path(1, 0), -3);
        due("path(1, 1), closed", two.path(1, 1), -2);
        TourBounds free = new TourBounds(5);
        free.line(7, 0);
        due("path for nothing", free.path(2, 4), 0);
    }

    // Promise 16
    private static void bestPath() {
        TourBounds x = square();
        due("bestPath", x.bestPath(), 6);
        x.mark(0, 2, 1);
        x.mark(0, 1, 1);
        x.mark(1, 3, 1);
        due("bestPath, required roads play no part", x.bestPath(), 6);
        x.mark(1, 2, 2);
        due("bestPath, 1-2 closed", x.bestPath(), 9);
        x.mark(0, 1, 2);
        due("bestPath, 0-1 closed", x.bestPath(), 52);
        x.mark(1, 3, 2);
        due("bestPath, 1 cut off", x.bestPath(), -3);
        // A star has no path of four towns although all are joined.
        TourBounds star = new TourBounds(4);
        star.mark(1, 2, 2);
        star.mark(1, 3, 2);
        star.mark(2, 3, 2);
        due("bestPath of a star", star.bestPath(), -3);
        TourBounds line = new TourBounds(7);
        line.line(0, 6);
        due("bestPath of a line", line.bestPath(), 36);
        line.line(5, 0);
        due("bestPath for nothing", line.bestPath(), 0);
    }

    // Promise 17
    private static void span() {
        TourBounds x = square();
        due("span", x.span(), 6);
        x.mark(1, 3, 1);
        due("span, required roads play no part", x.span(), 6);
        x.mark(1, 2, 2);
        due("span, 1-2 closed", x.span(), 9);
        x.mark(0, 1, 2);
        due("span, 0-1 closed", x.span(), 35);
        x.mark(3, 1, 2);
        due("span, 1 cut off", x.span(), -3);
        // A star: less than any path.
        TourBounds star = new TourBounds(5);
        for (int t = 0; t < 5; t++) {
            star.price(3, t, t);
        }
        due("span of a star", star.span(), 7);
        star.mark(0, 3, 2);
        due("span of a star, one arm closed", star.span(), 17);
        // Two groups that no road joins.
        TourBounds groups = new TourBounds(4);
        groups.mark(0, 2, 2);
        groups.mark(0, 3, 2);
        groups.mark(1, 2, 2);
        groups.mark(1, 3, 2);
        due("span of two groups", groups.span(), -3);
        groups.mark(1, 3, 0);
        due("span of joined groups", groups.span(), 30);
        groups.line(5, 0);
        due("span for nothing", groups.span(), 0);
    }

    // Promise 18
    private static void worth() {
        TourBounds x = square();
        due("worth(0, 1)", x.worth(0, 1), 44);
        due("worth(1, 0)", x.worth(1, 0), 44);
        due("worth(1, 2)", x.worth(1, 2), 46);
        due("worth of an unused road", x.worth(0, 2), 0);
        due("worth leaves the road", x.mark(0, 1, 0), 0);
        due("worth leaves the best", x.best(), 10);
        x.mark(0, 2, 2);
        due("worth of a closed road", x.worth(2, 0), 0);
        due("worth of the only tour's road", x.worth(0, 1), -4);
        x.mark(0, 2, 0);
        x.mark(0, 2, 1);
        due("worth of a required road", x.worth(0, 2), -4);
        due("worth beside a required road", x.worth(1, 2), 2);
        x.mark(0, 1, 1);
        x.mark(0, 3, 1);
        due("worth without a tour", x.worth(1, 2), -3);
        due("worth without a tour, required", x.worth(0, 1), -3);
        due("worth without a tour, same", x.worth(1, 1), -2);
        due("worth without a tour, bad", x.worth(4, 1), -1);
        TourBounds y = square();
        int[] bad = {LOWEST, -1, 4, 7, HIGHEST};
        for (int town : bad) {
            due("worth bad a", y.worth(town, 0), -1);
            due("worth bad b", y.worth(0, town), -1);
            due("worth bad same", y.worth(town, town), -1);
        }
        due("worth(0, 0)", y.worth(0, 0), -2);
        TourBounds two = new TourBounds(2);
        due("worth of the only road", two.worth(0, 1), -4);
        TourBounds even = new TourBounds(7);
        due("worth among equals", even.worth(0, 1), 0);
    }

    private static void questionsChangeNothing() {
        TourBounds x = square();
        x.mark(0, 2, 1);
        x.mark(1, 3, 2);
        IntSupplier[] questions = {
            x::towns, () -> x.priceOf(0, 1), x::best, x::bestCode, x::bestTours, x::allowed,
            () -> x.priceOfTour(code(1, 2, 3)), () -> x.isAllowed(code(2, 1, 3)),
            () -> x.within(54), () -> x.path(0, 1), x::bestPath, x::span, () -> x.worth(0, 3),
        };
        int[] first = new int[questions.length];
        for (int i = 0; i < questions.length; i++) {
            first[i] = questions[i].getAsInt();
        }
        for (int i = 0; i < questions.length; i++) {
            for (int j = 0; j < questions.length; j++) {
                questions[j].getAsInt();
                due("question " + i + " after " + j, questions[i].getAsInt(), first[i]);
            }
        }
    }

    private static void objectsStandApart() {
        TourBounds x = new TourBounds(4);
        TourBounds y = new TourBounds(5);
        x.price(0, 1, 3);
        x.mark(1, 2, 2);
        due("another object's price", y.priceOf(0, 1), 10);
        due("another object's mark", y.mark(1, 2, 0), 0);
        due("another object's towns", x.towns(), 4);
    }
}
