/** The boundary cases of the document's terms, and of its word on 512 calls. */
public final class TermsBoundaryTest {
    private static final int OPEN = TourBounds.OPEN;
    private static final int REQUIRED = TourBounds.REQUIRED;
    private static final int CLOSED = TourBounds.CLOSED;
    private static final int MOST_CALLS = 512;

    public static void main(String[] args) throws IllegalAccessException {
        Checks.runAll(TermsBoundaryTest.class);
    }

    private static void termsEveryPriceIs10AtFirst() {
        for (int n = 2; n <= 7; n++) {
            TourBounds x = new TourBounds(n);
            for (int a = 0; a < n; a++) {
                for (int b = 0; b < n; b++) {
                    Checks.due("priceOf(" + a + ", " + b + "), n = " + n, x.priceOf(a, b), a == b ? 0 : 10);
                }
            }
        }
    }

    private static void termsEveryRoadIsOpenAtFirst() {
        for (int n = 2; n <= 7; n++) {
            TourBounds x = new TourBounds(n);
            for (int a = 0; a < n; a++) {
                for (int b = 0; b < a; b++) {
                    Checks.due("mark(" + a + ", " + b + ", OPEN), n = " + n, x.mark(a, b, OPEN), OPEN);
                }
            }
        }
    }

    private static void termsPricesAndMarksHoldInBothDirections() {
        for (int n = 2; n <= 7; n++) {
            for (int a = 0; a < n; a++) {
                for (int b = 0; b < n; b++) {
                    if (a != b) {
                        TourBounds x = new TourBounds(n);
                        x.price(a, b, 3);
                        Checks.due("priceOf after price(" + a + ", " + b + ", 3)", x.priceOf(b, a), 3);
                        Checks.due("price after it", x.price(b, a, 4), 3);
                        Checks.due("priceOf the first way", x.priceOf(a, b), 4);
                        x.mark(a, b, CLOSED);
                        Checks.due("mark after mark(" + a + ", " + b + ", CLOSED)", x.mark(b, a, REQUIRED), CLOSED);
                        Checks.due("mark the first way", x.mark(a, b, OPEN), REQUIRED);
                    }
                }
            }
        }
    }

    private static void termsTwoTownsUseTheSameRoadTwice() {
        for (int price : new int[] {0, 1, 10, 39, 40}) {
            TourBounds x = new TourBounds(2);
            x.price(0, 1, price);
            Checks.due("best()", x.best(), 2 * price);
            Checks.due("bestCode()", x.bestCode(), 1);
            Checks.due("bestTours()", x.bestTours(), 1);
            Checks.due("allowed()", x.allowed(), 1);
            Checks.due("priceOfTour(1)", x.priceOfTour(1), 2 * price);
            Checks.due("within, one less", x.within(2 * price - 1), 0);
            Checks.due("within, just so", x.within(2 * price), 1);
            Checks.due("worth(0, 1)", x.worth(0, 1), -4);
        }
    }

    private static void termsTheRequiredRoadOfTwoTownsIsUsed() {
        TourBounds x = new TourBounds(2);
        x.mark(0, 1, REQUIRED);
        Checks.due("best()", x.best(), 20);
        Checks.due("bestCode()", x.bestCode(), 1);
        Checks.due("bestTours()", x.bestTours(), 1);
        Checks.due("allowed()", x.allowed(), 1);
        Checks.due("isAllowed(1)", x.isAllowed(1), 1);
        Checks.due("within(20)", x.within(20), 1);
    }

    private static void termsTheClosedRoadOfTwoTownsShutsAll() {
        TourBounds x = new TourBounds(2);
        x.mark(0, 1, CLOSED);
        Checks.due("best()", x.best(), -1);
        Checks.due("bestCode()", x.bestCode(), -1);
        Checks.due("bestTours()", x.bestTours(), 0);
        Checks.due("allowed()", x.allowed(), 0);
        Checks.due("priceOfTour(1)", x.priceOfTour(1), 20);
        Checks.due("isAllowed(1)", x.isAllowed(1), 0);
        Checks.due("within(greatest)", x.within(Checks.HIGHEST), 0);
        Checks.due("path(0, 1)", x.path(0, 1), -3);
        Checks.due("bestPath()", x.bestPath(), -3);
        Checks.due("span()", x.span(), -3);
        Checks.due("worth(0, 1)", x.worth(0, 1), -3);
    }

    private static void termsATownIsGoodFrom0ToNMinus1() {
        for (int n = 2; n <= 7; n++) {
            for (int town = -1; town <= 8; town++) {
                boolean good = town >= 0 && town < n;
                int other = town == 0 ? 1 : 0;
                TourBounds x = new TourBounds(n);
                String at = "n = " + n + ", town " + town + ": ";
                Checks.due(at + "priceOf", x.priceOf(town, other), good ? 10 : -1);
                Checks.due(at + "price", x.price(other, town, 9), good ? 10 : -1);
                Checks.due(at + "mark", x.mark(town, other, OPEN), good ? OPEN : -1);
                Checks.due(at + "path", x.path(other, town), good ? (n == 2 ? 9 : 10 * (n - 1)) : -1);
                Checks.due(at + "worth", x.worth(town, other), good ? (n < 4 ? -4 : 1) : -1);
            }
        }
    }

    private static void termsNoQuestionChangesAnything() {
        for (int n = 2; n <= 7; n++) {
            int last = n - 1;
            int code = Checks.codes(n).get(0);
            Checks.dueNoChange("towns()", n, TourBounds::towns);
            Checks.dueNoChange("priceOf(0, last)", n, x -> x.priceOf(0, last));
            Checks.dueNoChange("best()", n, TourBounds::best);
            Checks.dueNoChange("bestCode()", n, TourBounds::bestCode);
            Checks.dueNoChange("bestTours()", n, TourBounds::bestTours);
            Checks.dueNoChange("allowed()", n, TourBounds::allowed);
            Checks.dueNoChange("priceOfTour of a tour", n, x -> x.priceOfTour(code));
            Checks.dueNoChange("isAllowed of a tour", n, x -> x.isAllowed(code));
            Checks.dueNoChange("within(60)", n, x -> x.within(60));
            Checks.dueNoChange("path(last, 0)", n, x -> x.path(last, 0));
            Checks.dueNoChange("bestPath()", n, TourBounds::bestPath);
            Checks.dueNoChange("span()", n, TourBounds::span);
            Checks.dueNoChange("worth(0, 1)", n, x -> x.worth(0, 1));
            Checks.dueNoChange("worth(last, 0)", n, x -> x.worth(last, 0));
        }
    }

    private static void termsAQuestionAskedTwiceIsAnsweredTheSame() {
        for (int n = 2; n <= 7; n++) {
            int code = Checks.codes(n).get(0);
            Checks.Call[] questions = {
                TourBounds::towns, x -> x.priceOf(0, 1), TourBounds::best, TourBounds::bestCode,
                TourBounds::bestTours, TourBounds::allowed, x -> x.priceOfTour(code), x -> x.isAllowed(code),
                x -> x.within(60), x -> x.path(0, 1), TourBounds::bestPath, TourBounds::span, x -> x.worth(0, 1),
            };
            for (int i = 0; i < questions.length; i++) {
                TourBounds x = Checks.busy(n);
                int first = questions[i].on(x);
                for (Checks.Call other : questions) {
                    other.on(x);
                    Checks.due("question " + i + " again, n = " + n, questions[i].on(x), first);
                }
            }
        }
    }

    private static void termsQuestionsWithWrongCodesChangeNothing() {
        for (int n = 2; n <= 7; n++) {
            for (int code : new int[] {Checks.LOWEST, -1, 0, 7, 8, Checks.HIGHEST}) {
                Checks.dueRefused("priceOfTour(" + code + ")", n, x -> x.priceOfTour(code), -1);
                Checks.dueRefused("isAllowed(" + code + ")", n, x -> x.isAllowed(code), -1);
            }
        }
    }

    private static void termsManyRefusedCallsInARowChangeNothing() {
        for (int n = 2; n <= 7; n++) {
            Checks.dueNoChange("many refused calls", n, TermsBoundaryTest::refuseMany);
        }
    }

    private static int refuseMany(TourBounds x) {
        int n = x.towns();
        for (int bad : Checks.OUTSIDE_0_TO_40) {
            Checks.due("price of " + bad, x.price(0, n - 1, bad), -3);
            Checks.due("price of bad towns", x.price(bad, 0, 3), -1);
            Checks.due("mark of bad towns", x.mark(0, bad, CLOSED), -1);
            Checks.due("mark as " + bad, x.mark(0, 1, bad), -3);
            Checks.due("line from " + bad, x.line(bad, 3), -1);
            Checks.due("line by " + bad, x.line(3, bad), -2);
            Checks.due("sow from " + bad, x.sow(bad, 3), -1);
            Checks.due("sow with " + bad, x.sow(3, bad), -2);
            Checks.due("path from " + bad, x.path(bad, 0), -1);
            Checks.due("worth of " + bad, x.worth(0, bad), -1);
            Checks.due("priceOf " + bad, x.priceOf(bad, bad), -1);
        }
        for (int town = 0; town < n; town++) {
            Checks.due("price of one town", x.price(town, town, 3), -2);
            Checks.due("mark of one town", x.mark(town, town, CLOSED), -2);
            Checks.due("path to the same town", x.path(town, town), -2);
            Checks.due("worth of one town", x.worth(town, town), -2);
        }
        return 0;
    }

    private static void termsRequiredRoadsPlayNoPartForPaths() {
        for (int n = 2; n <= 7; n++) {
            for (int b = 1; b < n; b++) {
                for (int a = 0; a < b; a++) {
                    TourBounds x = new TourBounds(n);
                    TourBounds open = new TourBounds(n);
                    x.sow(19, 2);
                    open.sow(19, 2);
                    x.mark(a, b, REQUIRED);
                    dueSamePaths(a + "-" + b + " required, n = " + n, x, open);
                }
            }
        }
    }

    private static void dueSamePaths(String name, TourBounds x, TourBounds open) {
        Checks.due(name + ", bestPath()", x.bestPath(), open.bestPath());
        for (int a = 0; a < x.towns(); a++) {
            for (int b = 0; b < x.towns(); b++) {
                Checks.due(name + ", path(" + a + ", " + b + ")", x.path(a, b), open.path(a, b));
            }
        }
    }

    private static void termsClosedRoadsAreNotUsedByPaths() {
        for (int n = 3; n <= 7; n++) {
            for (int b = 1; b < n; b++) {
                for (int a = 0; a < b; a++) {
                    TourBounds x = Checks.allAt(n, 1);
                    x.price(a, b, 0);
                    Checks.due(a + "-" + b + " for nothing, n = " + n, x.bestPath(), n - 2);
                    x.mark(b, a, CLOSED);
                    Checks.due(a + "-" + b + " closed, n = " + n, x.bestPath(), n - 1);
                }
            }
        }
    }

    private static void termsOfATourAndItsMirrorTheLeastCodeIsBest() {
        for (int n = 2; n <= 7; n++) {
            for (int code : Checks.codes(n)) {
                int mirror = mirrorOf(n, code);
                if (code <= mirror) {
                    Checks.due("bestCode() of the cheapest ring, n = " + n, cheapest(n, code).bestCode(), code);
                }
            }
        }
    }

    private static int mirrorOf(int n, int code) {
        int mirror = 0;
        int rest = code;
        for (int k = 1; k < n; k++) {
            mirror = mirror * 7 + rest % 7;
            rest = rest / 7;
        }
        return mirror;
    }

    /** The roads of one tour cost 39, all others 40. */
    private static TourBounds cheapest(int n, int code) {
        TourBounds x = new TourBounds(n);
        for (int b = 1; b < n; b++) {
            for (int a = 0; a < b; a++) {
                x.price(a, b, Checks.uses(n, code, a, b) ? 39 : 40);
            }
        }
        return x;
    }

    private static void wordAll512CallsAreAnswered() {
        for (int n = 2; n <= 7; n++) {
            TourBounds x = new TourBounds(n);
            for (int call = 1; call <= MOST_CALLS - 2; call++) {
                int how = call % 3;
                Checks.due("call " + call + ", n = " + n, x.mark(0, 1, how), call == 1 ? OPEN : (call - 1) % 3);
            }
            Checks.due("call 511, n = " + n, x.mark(1, 0, OPEN), (MOST_CALLS - 2) % 3);
            Checks.due("call 512, n = " + n, x.best(), 10 * n);
        }
    }

    private static void wordAll512PricesAreAnswered() {
        TourBounds x = new TourBounds(7);
        int before = 10;
        for (int call = 1; call <= MOST_CALLS; call++) {
            Checks.due("call " + call, x.price(5, 6, call % 41), before);
            before = call % 41;
        }
    }

    private static void objectsStandApart() {
        TourBounds x = new TourBounds(4);
        TourBounds y = new TourBounds(5);
        TourBounds z = new TourBounds(4);
        y.sow(1, 1);
        y.mark(0, 1, CLOSED);
        z.line(1, 1);
        z.mark(2, 3, REQUIRED);
        Checks.dueSame("calls on other objects", x, new TourBounds(4));
    }
}
