/** The boundary cases of promises 1 to 7: making an object, prices and marks. */
public final class SetBoundaryTest {
    private static final int OPEN = TourBounds.OPEN;
    private static final int REQUIRED = TourBounds.REQUIRED;
    private static final int CLOSED = TourBounds.CLOSED;

    public static void main(String[] args) throws IllegalAccessException {
        Checks.runAll(SetBoundaryTest.class);
    }

    // Promise 1: below 2 becomes 2, above 7 becomes 7.

    private static void promise01BelowTwoBecomesTwo() {
        for (int towns : new int[] {Checks.LOWEST, Checks.LOWEST + 1, -7, -2, -1, 0, 1}) {
            TourBounds x = new TourBounds(towns);
            Checks.due("new of " + towns + ", towns()", x.towns(), 2);
            Checks.due("new of " + towns + ", priceOf(0, 1)", x.priceOf(0, 1), 10);
            Checks.due("new of " + towns + ", priceOf(0, 2)", x.priceOf(0, 2), -1);
            Checks.dueSame("new of " + towns, x, new TourBounds(2));
        }
    }

    private static void promise01AboveSevenBecomesSeven() {
        for (int towns : new int[] {8, 9, 14, 49, 1 << 16, Checks.HIGHEST - 1, Checks.HIGHEST}) {
            TourBounds x = new TourBounds(towns);
            Checks.due("new of " + towns + ", towns()", x.towns(), 7);
            Checks.due("new of " + towns + ", priceOf(5, 6)", x.priceOf(5, 6), 10);
            Checks.due("new of " + towns + ", priceOf(0, 7)", x.priceOf(0, 7), -1);
            Checks.dueSame("new of " + towns, x, new TourBounds(7));
        }
    }

    private static void promise01TwoToSevenStay() {
        int[] tours = {1, 2, 6, 24, 120, 720};
        for (int n = 2; n <= 7; n++) {
            TourBounds x = new TourBounds(n);
            Checks.due("new of " + n + ", towns()", x.towns(), n);
            Checks.due("new of " + n + ", allowed()", x.allowed(), tours[n - 2]);
            Checks.due("new of " + n + ", best()", x.best(), 10 * n);
            Checks.due("new of " + n + ", span()", x.span(), 10 * (n - 1));
            Checks.due("new of " + n + ", bestPath()", x.bestPath(), 10 * (n - 1));
        }
    }

    // Promise 2

    private static void promise02TownsIsTheSameAfterEveryCall() {
        for (int n = 2; n <= 7; n++) {
            Checks.due("busy, towns()", Checks.busy(n).towns(), n);
            Checks.due("stuck, towns()", Checks.stuck(n).towns(), n);
            TourBounds x = new TourBounds(n);
            x.price(0, n, 5);
            x.mark(n, 0, CLOSED);
            x.line(41, 41);
            Checks.due("after refusals, towns()", x.towns(), n);
        }
    }

    // Promise 3

    private static void promise03TownNotGoodIsMinus1() {
        for (int n = 2; n <= 7; n++) {
            int last = n - 1;
            for (int bad : Checks.badTowns(n)) {
                Checks.dueRefused("price(" + bad + ", 0, 5)", n, x -> x.price(bad, 0, 5), -1);
                Checks.dueRefused("price(last, " + bad + ", 5)", n, x -> x.price(last, bad, 5), -1);
                Checks.dueRefused("price(1, " + bad + ", 5)", n, x -> x.price(1, bad, 5), -1);
            }
        }
    }

    private static void promise03EveryGoodTownIsTaken() {
        for (int n = 2; n <= 7; n++) {
            TourBounds x = new TourBounds(n);
            for (int a = 0; a < n; a++) {
                for (int b = 0; b < n; b++) {
                    if (a != b) {
                        Checks.due("price(" + a + ", " + b + ", ..)", x.price(a, b, a < b ? 7 : 8), a < b ? 10 : 7);
                        Checks.due("priceOf(" + b + ", " + a + ")", x.priceOf(b, a), a < b ? 7 : 8);
                    }
                }
            }
        }
    }

    private static void promise03SameTownIsMinus2() {
        for (int n = 2; n <= 7; n++) {
            for (int t = 0; t < n; t++) {
                int town = t;
                Checks.dueRefused("price(" + t + ", " + t + ", 5)", n, x -> x.price(town, town, 5), -2);
            }
        }
    }

    private static void promise03PriceOutside0To40IsMinus3() {
        for (int n = 2; n <= 7; n++) {
            int last = n - 1;
            for (int price : Checks.OUTSIDE_0_TO_40) {
                Checks.dueRefused("price(0, 1, " + price + ")", n, x -> x.price(0, 1, price), -3);
                Checks.dueRefused("price(last, 0, " + price + ")", n, x -> x.price(last, 0, price), -3);
            }
        }
    }

    private static void promise03Price0To40IsTakenAndTheOneBeforeAnswered() {
        for (int n = 2; n <= 7; n++) {
            TourBounds x = new TourBounds(n);
            int before = 10;
            for (int price = 0; price <= 40; price++) {
                Checks.due("price(0, last, " + price + ")", x.price(0, n - 1, price), before);
                Checks.due("priceOf(last, 0)", x.priceOf(n - 1, 0), price);
                before = price;
            }
            Checks.due("price(last, 0, 40) again", x.price(n - 1, 0, 40), 40);
            Checks.due("price(last, 0, 0)", x.price(n - 1, 0, 0), 40);
            Checks.due("price(0, last, 0) again", x.price(0, n - 1, 0), 0);
        }
    }

    private static void promise03TheOneBeforeIsTheLastThatWasTaken() {
        TourBounds x = new TourBounds(3);
        x.price(1, 2, 6);
        x.price(1, 2, 41);
        x.price(1, 2, -1);
        Checks.due("price(2, 1, 7) after two refusals", x.price(2, 1, 7), 6);
        x.line(0, 40);
        Checks.due("price(0, 1, 3) after line", x.price(0, 1, 3), 40);
        x.sow(0, 0);
        Checks.due("price(0, 1, 3) after sow", x.price(0, 1, 3), 17);
    }

    private static void promise03BadTownComesBeforeSameTown() {
        for (int n = 2; n <= 7; n++) {
            for (int bad : Checks.badTowns(n)) {
                Checks.dueRefused("price(" + bad + " twice, 5)", n, x -> x.price(bad, bad, 5), -1);
            }
        }
    }

    private static void promise03BadTownComesBeforeBadPrice() {
        for (int n = 2; n <= 7; n++) {
            for (int price : Checks.OUTSIDE_0_TO_40) {
                int bad = n;
                Checks.dueRefused("price(n, 0, " + price + ")", n, x -> x.price(bad, 0, price), -1);
                Checks.dueRefused("price(0, -1, " + price + ")", n, x -> x.price(0, -1, price), -1);
                Checks.dueRefused("price(n, n, " + price + ")", n, x -> x.price(bad, bad, price), -1);
            }
        }
    }

    private static void promise03SameTownComesBeforeBadPrice() {
        for (int n = 2; n <= 7; n++) {
            for (int price : Checks.OUTSIDE_0_TO_40) {
                int last = n - 1;
                Checks.dueRefused("price(0, 0, " + price + ")", n, x -> x.price(0, 0, price), -2);
                Checks.dueRefused("price(last, last, " + price + ")", n, x -> x.price(last, last, price), -2);
            }
        }
    }

    private static void promise03PriceChangesOneRoadAlone() {
        for (int n = 2; n <= 7; n++) {
            for (int b = 1; b < n; b++) {
                for (int a = 0; a < b; a++) {
                    TourBounds x = new TourBounds(n);
                    x.price(b, a, 23);
                    dueOneRoad(x, n, a, b, 23);
                }
            }
        }
    }

    private static void dueOneRoad(TourBounds x, int n, int a, int b, int price) {
        for (int c = 0; c < n; c++) {
            for (int d = 0; d < n; d++) {
                boolean set = c == a && d == b || c == b && d == a;
                Checks.due("priceOf(" + c + ", " + d + ") with " + a + "-" + b + " set",
                        x.priceOf(c, d), c == d ? 0 : set ? price : 10);
            }
        }
    }

    private static void promise03PriceLeavesMarks() {
        for (int how = OPEN; how <= CLOSED; how++) {
            TourBounds x = Checks.allMarked(7, how);
            for (int b = 1; b < 7; b++) {
                for (int a = 0; a < b; a++) {
                    Checks.due("price of a road marked " + how, x.price(a, b, 0), 10);
                    Checks.due("its mark", Checks.markOf(x, a, b), how);
                    Checks.due("its price", x.priceOf(a, b), 0);
                }
            }
        }
    }

    // Promise 4

    private static void promise04SeedOutside0To40IsMinus1() {
        for (int n = 2; n <= 7; n++) {
            for (int seed : Checks.OUTSIDE_0_TO_40) {
                Checks.dueRefused("line(" + seed + ", 0)", n, x -> x.line(seed, 0), -1);
                Checks.dueRefused("line(" + seed + ", 40)", n, x -> x.line(seed, 40), -1);
            }
        }
    }

    private static void promise04StepOutside0To40IsMinus2() {
        for (int n = 2; n <= 7; n++) {
            for (int step : Checks.OUTSIDE_0_TO_40) {
                Checks.dueRefused("line(0, " + step + ")", n, x -> x.line(0, step), -2);
                Checks.dueRefused("line(40, " + step + ")", n, x -> x.line(40, step), -2);
            }
        }
    }

    private static void promise04BadSeedComesBeforeBadStep() {
        for (int n = 2; n <= 7; n++) {
            for (int bad : Checks.OUTSIDE_0_TO_40) {
                Checks.dueRefused("line(" + bad + ", 41)", n, x -> x.line(bad, 41), -1);
                Checks.dueRefused("line(-1, " + bad + ")", n, x -> x.line(-1, bad), -1);
            }
        }
    }

    private static void promise04EverySeedAndStepIsTaken() {
        for (int seed = 0; seed <= 40; seed++) {
            for (int step = 0; step <= 40; step++) {
                TourBounds x = new TourBounds(7);
                String call = "line(" + seed + ", " + step + ")";
                Checks.due(call, x.line(seed, step), 0);
                dueOnLine(call, x, 7, seed, step);
            }
        }
    }

    /** The places found by going on from town to town, and back to the start behind place 40. */
    private static void dueOnLine(String call, TourBounds x, int n, int seed, int step) {
        int[] places = new int[n];
        places[0] = seed;
        for (int k = 1; k < n; k++) {
            int next = places[k - 1] + step;
            places[k] = next > 40 ? next - 41 : next;
        }
        for (int a = 0; a < n; a++) {
            for (int b = 0; b < n; b++) {
                int apart = places[a] > places[b] ? places[a] - places[b] : places[b] - places[a];
                Checks.due(call + ", priceOf(" + a + ", " + b + ")", x.priceOf(a, b), apart);
            }
        }
    }

    private static void promise04PlacesWrapAround() {
        // Seed, step, and how far apart the towns 0 and 1 stand then.
        int[][] cases = {
            {0, 40, 40}, {1, 39, 39}, {1, 40, 1}, {2, 39, 2}, {40, 0, 0}, {40, 1, 40},
            {39, 1, 1}, {39, 2, 39}, {40, 40, 1}, {20, 20, 20}, {20, 21, 20}, {0, 0, 0}, {0, 1, 1},
        };
        for (int n = 2; n <= 7; n++) {
            for (int[] c : cases) {
                TourBounds x = new TourBounds(n);
                x.line(c[0], c[1]);
                Checks.due("line(" + c[0] + ", " + c[1] + "), priceOf(0, 1)", x.priceOf(0, 1), c[2]);
            }
        }
    }

    private static void promise04DistanceIsStraightAlongTheLine() {
        TourBounds x = new TourBounds(3);
        x.line(0, 20);
        Checks.due("places 0 and 20", x.priceOf(0, 1), 20);
        Checks.due("places 20 and 40", x.priceOf(1, 2), 20);
        Checks.due("places 0 and 40", x.priceOf(0, 2), 40);
        x.line(40, 21);
        Checks.due("places 40 and 20", x.priceOf(1, 0), 20);
        Checks.due("places 40 and 0", x.priceOf(2, 0), 40);
    }

    private static void promise04EveryRoadGetsItsPrice() {
        for (int n = 2; n <= 7; n++) {
            TourBounds x = Checks.allAt(n, 33);
            x.line(38, 7);
            dueOnLine("line(38, 7) over other prices", x, n, 38, 7);
            x.line(3, 0);
            dueOnLine("line(3, 0) over a line", x, n, 3, 0);
            x.sow(9, 9);
            x.line(0, 40);
            dueOnLine("line(0, 40) over sown prices", x, n, 0, 40);
        }
    }

    private static void promise04LineLeavesMarks() {
        dueMarksStay("line(5, 6)", x -> x.line(5, 6));
    }

    // Promise 5

    private static void promise05SeedOutside0To40IsMinus1() {
        for (int n = 2; n <= 7; n++) {
            for (int seed : Checks.OUTSIDE_0_TO_40) {
                Checks.dueRefused("sow(" + seed + ", 0)", n, x -> x.sow(seed, 0), -1);
                Checks.dueRefused("sow(" + seed + ", 40)", n, x -> x.sow(seed, 40), -1);
            }
        }
    }

    private static void promise05BendOutside0To40IsMinus2() {
        for (int n = 2; n <= 7; n++) {
            for (int bend : Checks.OUTSIDE_0_TO_40) {
                Checks.dueRefused("sow(0, " + bend + ")", n, x -> x.sow(0, bend), -2);
                Checks.dueRefused("sow(40, " + bend + ")", n, x -> x.sow(40, bend), -2);
            }
        }
    }

    private static void promise05BadSeedComesBeforeBadBend() {
        for (int n = 2; n <= 7; n++) {
            for (int bad : Checks.OUTSIDE_0_TO_40) {
                Checks.dueRefused("sow(" + bad + ", 41)", n, x -> x.sow(bad, 41), -1);
                Checks.dueRefused("sow(-1, " + bad + ")", n, x -> x.sow(-1, bad), -1);
            }
        }
    }

    private static void promise05EverySeedAndBendIsTaken() {
        for (int seed = 0; seed <= 40; seed++) {
            for (int bend = 0; bend <= 40; bend++) {
                TourBounds x = new TourBounds(7);
                String call = "sow(" + seed + ", " + bend + ")";
                Checks.due(call, x.sow(seed, bend), 0);
                dueSown(call, x, 7, seed, bend);
            }
        }
    }

    private static void dueSown(String call, TourBounds x, int n, int seed, int bend) {
        for (int b = 1; b < n; b++) {
            for (int a = 0; a < b; a++) {
                int want = seed + 13 * a + 17 * b + a * b * bend;
                while (want > 40) {
                    want -= 41;
                }
                Checks.due(call + ", priceOf(" + a + ", " + b + ")", x.priceOf(a, b), want);
                Checks.due(call + ", priceOf(" + b + ", " + a + ")", x.priceOf(b, a), want);
            }
        }
    }

    private static void promise05PricesWrapAround() {
        TourBounds x = new TourBounds(7);
        x.sow(23, 0);
        Checks.due("23 + 17 = 40", x.priceOf(0, 1), 40);
        x.sow(24, 0);
        Checks.due("24 + 17 = 41", x.priceOf(0, 1), 0);
        x.sow(25, 0);
        Checks.due("25 + 17 = 42", x.priceOf(1, 0), 1);
        x.sow(40, 40);
        Checks.due("40 + 13 * 5 + 17 * 6 + 30 * 40 = 1407", x.priceOf(6, 5), 13);
        x.sow(0, 40);
        Checks.due("17 * 6 = 102, where a is 0", x.priceOf(0, 6), 20);
    }

    private static void promise05EveryRoadGetsItsPrice() {
        for (int n = 2; n <= 7; n++) {
            TourBounds x = Checks.allAt(n, 33);
            x.sow(38, 7);
            dueSown("sow(38, 7) over other prices", x, n, 38, 7);
            x.sow(0, 0);
            dueSown("sow(0, 0) over sown prices", x, n, 0, 0);
            x.line(9, 9);
            x.sow(40, 1);
            dueSown("sow(40, 1) over a line", x, n, 40, 1);
        }
    }

    private static void promise05SowLeavesMarks() {
        dueMarksStay("sow(5, 6)", x -> x.sow(5, 6));
    }

    private static void dueMarksStay(String name, Checks.Call call) {
        for (int n = 2; n <= 7; n++) {
            for (int how = OPEN; how <= CLOSED; how++) {
                TourBounds x = Checks.allMarked(n, how);
                call.on(x);
                for (int b = 1; b < n; b++) {
                    for (int a = 0; a < b; a++) {
                        Checks.due(name + ", then the mark of " + a + "-" + b, Checks.markOf(x, a, b), how);
                    }
                }
            }
        }
    }

    // Promise 6

    private static final int[] NO_MARKS = {
        Checks.LOWEST, Checks.LOWEST + 1, -2, -1, 3, 4, 5, 1 << 16, Checks.HIGHEST - 1, Checks.HIGHEST,
    };

    private static void promise06TownNotGoodIsMinus1() {
        for (int n = 2; n <= 7; n++) {
            int last = n - 1;
            for (int bad : Checks.badTowns(n)) {
                for (int h = OPEN; h <= CLOSED; h++) {
                    int how = h;
                    Checks.dueRefused("mark(" + bad + ", 0, ..)", n, x -> x.mark(bad, 0, how), -1);
                    Checks.dueRefused("mark(last, " + bad + ", ..)", n, x -> x.mark(last, bad, how), -1);
                }
            }
        }
    }

    private static void promise06EveryGoodTownIsTaken() {
        for (int n = 2; n <= 7; n++) {
            TourBounds x = new TourBounds(n);
            for (int a = 0; a < n; a++) {
                for (int b = 0; b < n; b++) {
                    if (a != b) {
                        int before = a < b ? OPEN : CLOSED;
                        int how = a < b ? CLOSED : REQUIRED;
                        Checks.due("mark(" + a + ", " + b + ", " + how + ")", x.mark(a, b, how), before);
                    }
                }
            }
        }
    }

    private static void promise06SameTownIsMinus2() {
        for (int n = 2; n <= 7; n++) {
            for (int t = 0; t < n; t++) {
                for (int h = OPEN; h <= CLOSED; h++) {
                    int town = t;
                    int how = h;
                    Checks.dueRefused("mark(" + t + " twice, " + h + ")", n, x -> x.mark(town, town, how), -2);
                }
            }
        }
    }

    private static void promise06HowOutside0To2IsMinus3() {
        for (int n = 2; n <= 7; n++) {
            int last = n - 1;
            for (int how : NO_MARKS) {
                Checks.dueRefused("mark(0, 1, " + how + ")", n, x -> x.mark(0, 1, how), -3);
                Checks.dueRefused("mark(last, 0, " + how + ")", n, x -> x.mark(last, 0, how), -3);
            }
        }
    }

    private static void promise06EveryMarkIsTakenAndTheOneBeforeAnswered() {
        for (int n = 2; n <= 7; n++) {
            for (int from = OPEN; from <= CLOSED; from++) {
                for (int to = OPEN; to <= CLOSED; to++) {
                    TourBounds x = new TourBounds(n);
                    Checks.due("mark a new road", x.mark(0, n - 1, from), OPEN);
                    Checks.due("mark to " + to, x.mark(n - 1, 0, to), from);
                    Checks.due("mark from " + to, x.mark(0, n - 1, OPEN), to);
                }
            }
        }
    }

    private static void promise06TheMarkBeforeIsTheLastThatWasTaken() {
        for (int how = OPEN; how <= CLOSED; how++) {
            TourBounds x = new TourBounds(3);
            x.mark(1, 2, how);
            for (int bad : NO_MARKS) {
                x.mark(1, 2, bad);
            }
            Checks.due("mark after refusals", x.mark(2, 1, OPEN), how);
        }
    }

    private static void promise06BadTownComesBeforeSameTown() {
        for (int n = 2; n <= 7; n++) {
            for (int bad : Checks.badTowns(n)) {
                Checks.dueRefused("mark(" + bad + " twice, 1)", n, x -> x.mark(bad, bad, REQUIRED), -1);
            }
        }
    }

    private static void promise06BadTownComesBeforeBadHow() {
        for (int n = 2; n <= 7; n++) {
            for (int how : NO_MARKS) {
                int bad = n;
                Checks.dueRefused("mark(n, 0, " + how + ")", n, x -> x.mark(bad, 0, how), -1);
                Checks.dueRefused("mark(0, -1, " + how + ")", n, x -> x.mark(0, -1, how), -1);
                Checks.dueRefused("mark(n, n, " + how + ")", n, x -> x.mark(bad, bad, how), -1);
            }
        }
    }

    private static void promise06SameTownComesBeforeBadHow() {
        for (int n = 2; n <= 7; n++) {
            for (int how : NO_MARKS) {
                int last = n - 1;
                Checks.dueRefused("mark(0, 0, " + how + ")", n, x -> x.mark(0, 0, how), -2);
                Checks.dueRefused("mark(last, last, " + how + ")", n, x -> x.mark(last, last, how), -2);
            }
        }
    }

    private static void promise06MarkChangesOneRoadAlone() {
        for (int n = 2; n <= 7; n++) {
            for (int b = 1; b < n; b++) {
                for (int a = 0; a < b; a++) {
                    TourBounds x = new TourBounds(n);
                    x.mark(b, a, CLOSED);
                    dueOneMark(x, n, a, b);
                }
            }
        }
    }

    private static void dueOneMark(TourBounds x, int n, int a, int b) {
        for (int d = 1; d < n; d++) {
            for (int c = 0; c < d; c++) {
                Checks.due("the mark of " + c + "-" + d + " with " + a + "-" + b + " closed",
                        Checks.markOf(x, c, d), c == a && d == b ? CLOSED : OPEN);
            }
        }
    }

    private static void promise06MarkLeavesPrices() {
        for (int n = 2; n <= 7; n++) {
            for (int how = OPEN; how <= CLOSED; how++) {
                TourBounds x = new TourBounds(n);
                x.sow(11, 12);
                for (int b = 1; b < n; b++) {
                    for (int a = 0; a < b; a++) {
                        x.mark(a, b, how);
                    }
                }
                dueSown("all marked " + how, x, n, 11, 12);
            }
        }
    }

    private static void promise06ANewMarkTakesThePlaceOfTheOldOne() {
        TourBounds x = new TourBounds(4);
        x.mark(0, 1, REQUIRED);
        Checks.due("allowed() with 0-1 required", x.allowed(), 4);
        x.mark(0, 1, CLOSED);
        Checks.due("allowed() with 0-1 closed instead", x.allowed(), 2);
        x.mark(0, 1, REQUIRED);
        Checks.due("allowed() with 0-1 required again", x.allowed(), 4);
        x.mark(0, 1, OPEN);
        Checks.due("allowed() with 0-1 open again", x.allowed(), 6);
        x.mark(0, 1, CLOSED);
        x.mark(1, 0, OPEN);
        Checks.due("allowed() with 0-1 closed and opened", x.allowed(), 6);
    }

    // Promise 7

    private static void promise07TownNotGoodIsMinus1() {
        for (int n = 2; n <= 7; n++) {
            int last = n - 1;
            for (int bad : Checks.badTowns(n)) {
                Checks.dueRefused("priceOf(" + bad + ", 0)", n, x -> x.priceOf(bad, 0), -1);
                Checks.dueRefused("priceOf(0, " + bad + ")", n, x -> x.priceOf(0, bad), -1);
                Checks.dueRefused("priceOf(" + bad + ", last)", n, x -> x.priceOf(bad, last), -1);
            }
        }
    }

    private static void promise07SameTownIs0() {
        for (int n = 2; n <= 7; n++) {
            TourBounds dear = Checks.allAt(n, 40);
            for (int t = 0; t < n; t++) {
                int town = t;
                Checks.dueRefused("priceOf(" + t + ", " + t + ")", n, x -> x.priceOf(town, town), 0);
                Checks.due("all at 40, priceOf(" + t + ", " + t + ")", dear.priceOf(t, t), 0);
            }
        }
    }

    private static void promise07BadTownComesBeforeSameTown() {
        for (int n = 2; n <= 7; n++) {
            for (int bad : Checks.badTowns(n)) {
                Checks.dueRefused("priceOf(" + bad + " twice)", n, x -> x.priceOf(bad, bad), -1);
            }
        }
    }

    private static void promise07PricesAtBothEndsOfTheRange() {
        for (int n = 2; n <= 7; n++) {
            for (int price : new int[] {0, 1, 39, 40}) {
                TourBounds x = Checks.allAt(n, price);
                for (int a = 0; a < n; a++) {
                    for (int b = 0; b < n; b++) {
                        Checks.due("all at " + price + ", priceOf", x.priceOf(a, b), a == b ? 0 : price);
                    }
                }
            }
        }
    }

    private static void promise07MarksPlayNoPart() {
        for (int how = OPEN; how <= CLOSED; how++) {
            TourBounds x = Checks.allMarked(7, how);
            x.price(2, 5, 13);
            Checks.due("priceOf(5, 2) marked " + how, x.priceOf(5, 2), 13);
            Checks.due("priceOf(0, 6) marked " + how, x.priceOf(0, 6), 10);
        }
    }
}
