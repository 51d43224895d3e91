/** Each sentence of promises 28 to 33, and of the terms that they use, that names a boundary case. */
public final class NotedEdgesTest {
    private static final Checks CHECK = new Checks();
    private static final int NONE = BentShares.NONE;
    private static final int[] FAR_OUT = {-1, -2, Integer.MIN_VALUE, Integer.MAX_VALUE};

    // Behind the first of two packets of 5 none goes for 500 units: all that come then wait.
    private static final String HELD = "class upper 1 0 1;";

    public static void main(String[] args) {
        CHECK.runAll(NotedEdgesTest.class);
    }

    // ---- promise 28

    /** "NONE (STATUS 2): there are 8" */
    private static void promise28_thereAre8() {
        BentShares x = Checks.linked("class;");
        for (int i = 1; i <= 8; i++) {
            CHECK.is("noted", x.note(0, i, i), i);
        }
        for (int i = 1; i <= 3; i++) {
            CHECK.is("no more", x.note(0, 1, 1), NONE);
            CHECK.is("there are 8", x.count(13), 8);
            CHECK.is("counted", Checks.status(x), "0 0 " + i);
        }
        x.forget();
        CHECK.is("there is room again", x.note(0, 1, 1), 1);
    }

    private static void refused(String what, BentShares x, int cls, int units, int bytes) {
        int before = x.count(17);
        CHECK.is(what, x.note(cls, units, bytes), NONE);
        CHECK.is(what + " is counted", x.count(17), before + 1);
        CHECK.is(what + " isn't noted", x.count(13), 0);
    }

    /** "no such CLASS, units not 0 to 100, bytes not 0 to 9999" */
    private static void promise28_notAsTold() {
        BentShares x = Checks.linked("class;class in 0;");
        refused("class 2", x, 2, 0, 0);
        refused("101 units", x, 0, 101, 0);
        refused("10000 bytes", x, 0, 0, 10000);
        for (int far : FAR_OUT) {
            refused("class " + far, x, far, 0, 0);
            refused("units " + far, x, 0, far, 0);
            refused("bytes " + far, x, 0, 0, far);
        }
        CHECK.is("all at their most, of no leaf", x.note(0, 100, 9999), 1);
        CHECK.is("all at their least, of a leaf", x.note(1, 0, 0), 2);
        CHECK.is("no act", x.count(12) + x.count(16), 0);
    }

    // ---- promise 29

    private static void others(String what, BentShares x, int many, int first, int without) {
        CHECK.is("how many " + what, x.other(0), many);
        CHECK.is("the first " + what, x.other(1), first);
        CHECK.is("without " + what, x.other(2), without);
    }

    /** "NoSuchElementException: another what." */
    private static void promise29_anotherWhat() {
        BentShares x = Checks.linked("class;flow 0 1 0 1;");
        CHECK.noSuch("3", () -> x.other(3));
        for (int what : FAR_OUT) {
            CHECK.noSuch("what " + what, () -> x.other(what));
        }
    }

    /** "SIZES (1 to 64, another one than it has)" */
    private static void promise29_sizes() {
        BentShares x = Checks.linked("class;flow 0 200 0 5;");
        int[] bytes = {1, 64, 65, 5, 0};
        int[] first = {1, 64, NONE, NONE, NONE};
        for (int i = 0; i < bytes.length; i++) {
            x.note(0, 1, bytes[i]);
            others("by " + bytes[i], x, first[i] == NONE ? 0 : 1, first[i], bytes[i] == 5 ? 1 : 0);
            x.forget();
        }
        BentShares least = Checks.linked("class;flow 0 200 0 1;");
        others("where it has 1", least, 63, 2, 1);
        BentShares most = Checks.linked("class;flow 0 200 0 64;");
        others("where it has 64", most, 63, 1, 1);
    }

    /** "the first (100 by the FLOW, and SIZE)", "FLOWS": the last of eight */
    private static void promise29_theFirst() {
        BentShares x = Checks.linked("class;class;" + "flow 0 200 150 5;".repeat(7) + "flow 1 200 0 5;");
        others("with none noted", x, 8 * 63, 1, 1);
        x.note(1, 1, 64);
        others("by the eighth", x, 1, 764, 0);
        x.forget();
        x.note(1, 1, 5);
        others("by any of the other seven", x, 7 * 63, 1, 1);
        Checks.link(x, "class;flow 0 200 0 1;flow 0 200 1 5;");
        x.note(0, 2, 6);
        others("all by one flow, in place of a byte and 5 of another", x, 1, 6, 1);
        x.note(0, 1, 1);
        others("the first byte by itself", x, 0, NONE, 1);
    }

    /** "by one of which all NOTED would be so": each of the eight, in whatever order */
    private static void promise29_allNoted() {
        for (int odd = 0; odd < 9; odd++) {
            BentShares x = Checks.linked("class;flow 0 10 0 5;");
            for (int i = 0; i < 8; i++) {
                int units = 71 - 10 * i;
                x.note(0, units, 7 * (8 - i) + (i == odd ? 1 : 0));
            }
            others("but for " + odd, x, odd == 8 ? 1 : 0, odd == 8 ? 7 : NONE, 0);
        }
    }

    /** Of several classes, noted in no order of their units. */
    private static void promise29_ofSeveralClasses() {
        BentShares x = Checks.linked("class;class;class in 1;flow 0 20 0 3;flow 2 20 5 4;");
        x.note(0, 41, 9);
        x.note(2, 6, 4);
        x.note(0, 1, 3);
        x.note(1, 26, 8);
        x.note(2, 25, 4);
        others("as they will be", x, 0, NONE, 1);
        x.note(1, 46, 13);
        others("one is a byte more", x, 0, NONE, 0);
        x.forget();
        x.note(1, 26, 14);
        x.note(0, 41, 9);
        x.note(2, 6, 7);
        x.note(0, 6, 3);
        others("by the second flow", x, 1, 107, 0);
    }

    /** "how many BYTES more than now a CLASS has SENT behind so many UNITS (0 to 100)" */
    private static void promise29_bytesMoreThanNow() {
        BentShares x = Checks.linked("class;class in 0;flow 1 100 99 5;");
        x.note(0, 0, 0);
        others("behind 0 it is 0", x, 63, 1, 1);
        x.note(0, 99, 0);
        others("behind 99, too", x, 63, 1, 1);
        x.note(0, 100, 5);
        others("behind 100 it is 5", x, 0, NONE, 1);
        x.units(100);
        others("what is sent doesn't count", x, 0, NONE, 1);
        x.units(1);
        others("behind 99 it is 5 now", x, 0, NONE, 0);
        x.forget();
        x.note(1, 0, 1);
        others("behind 0 never 1", x, 0, NONE, 0);
    }

    /** "that a FLOW might have from now on": what waits keeps its size */
    private static void promise29_fromNowOn() {
        BentShares x = Checks.linked("class;flow 0 10 0 20;");
        x.units(11);
        CHECK.is("one of 20 waits", x.of(0, 9), 20);
        x.note(0, 10, 20);
        others("it goes as it is", x, 63, 1, 1);
        x.note(0, 30, 23);
        others("behind it goes what comes", x, 1, 3, 0);
    }

    /** "whether it is so without (1)", with none noted, without classes */
    private static void promise29_without() {
        BentShares x = new BentShares();
        others("without classes", x, 0, NONE, 1);
        BentShares y = Checks.linked("class;");
        others("without flows", y, 0, NONE, 1);
        y.note(0, 5, 1);
        others("it isn't so", y, 0, NONE, 0);
        y.come(0, 1);
        others("now it is", y, 0, NONE, 1);
    }

    // ---- promise 30

    /** "NoSuchElementException: another what." */
    private static void promise30_anotherWhat() {
        BentShares x = Checks.linked("class;flow 0 1 0 1;");
        CHECK.noSuch("2", () -> x.look(2));
        for (int what : FAR_OUT) {
            CHECK.noSuch("what " + what, () -> x.look(what));
        }
    }

    private static void look(String what, BentShares x, int which, int many) {
        CHECK.is("which " + what, x.look(0), which);
        CHECK.is("how many " + what, x.look(1), many);
    }

    /** "behind 50 UNITS": one chosen in the last of them counts */
    private static void promise30_behind50() {
        look("in the 50th", Checks.linked("class;flow 0 200 49 5;"), 0, 63);
        look("in the 51st", Checks.linked("class;flow 0 200 50 5;"), 0, 1);
    }

    /** "behind 50 UNITS" from now on, whatever is noted, whatever was sent */
    private static void promise30_behind50FromNow() {
        BentShares x = Checks.linked("class;flow 0 200 60 5;");
        x.note(0, 30, 0);
        look("noted behind 30", x, 0, 1);
        x.note(0, 60, 0);
        look("noted behind 60", x, 0, 1);
        x.forget();
        x.units(20);
        look("from 20 on", x, 0, 63);
        BentShares much = Checks.linked("class;flow 0 200 0 64;");
        Checks.passes(much, 800);
        CHECK.is("sent so far", much.of(0, 3), 256);
        look("the next one", much, 0, 63);
    }

    /** "(of like ones the least)" */
    private static void promise30_ofLikeOnesTheLeast() {
        look("all like", Checks.linked("class;class;class;flow 2 200 99 5;"), 0, 1);
        look("the last alone", Checks.linked("class;class;class;flow 2 200 0 5;"), 2, 63);
        look("the outer one and the leaf", Checks.linked("class;class;class in 1;flow 2 200 0 5;"), 1, 63);
        // Each has the 63 sizes of its own flow, and 5 by the other's; 0 has none, too, if the other's takes 50 or more.
        look("two flows", Checks.linked("class;class;flow 1 200 0 5;flow 0 200 1 5;"), 0, 65);
    }

    /** "none without any" (NONE, 0) */
    private static void promise30_noneWithoutAny() {
        look("without classes", new BentShares(), NONE, 0);
        look("without flows", Checks.linked("class;"), NONE, 0);
        BentShares x = Checks.linked("class;flow 0 10 0 5;");
        x.note(0, 0, 1);
        look("where none would be so", x, NONE, 0);
        x.forget();
        x.note(0, 1, 9);
        look("where one would be", x, 0, 1);
    }

    // ---- promise 31

    private static void promise31_allIsForgotten() {
        BentShares x = Checks.linked("class;");
        x.forget();
        CHECK.is("none yet", x.count(13), 0);
        for (int i = 0; i < 9; i++) {
            x.note(0, 5, 5);
        }
        x.forget();
        CHECK.is("none of eight", x.count(13), 0);
        CHECK.is("so without", x.other(2), 1);
        CHECK.is("STATUS stays", Checks.status(x), "0 0 1");
        CHECK.is("no act", x.undo(), NONE);
        CHECK.is("none is left", x.count(13), 0);
    }

    // ---- promise 32

    private static BentShares held(String flows) {
        BentShares x = Checks.linked(HELD + flows);
        Checks.comes(x, 0, 5, 5);
        x.units(1);
        return x;
    }

    /** "IllegalArgumentException (behind that): packets, tenths." */
    private static void promise32_wrongNumbers() {
        BentShares x = held("flow 0 10 5 1;");
        CHECK.is("the least", x.storms(0, 1, 0, 20), 10);
        CHECK.is("the greatest", x.storms(0, 5, 10, 20), 100000);
        CHECK.illegal("0 packets", () -> x.storms(0, 0, 1, 1));
        CHECK.illegal("6 packets", () -> x.storms(0, 6, 1, 1));
        CHECK.illegal("11 tenths", () -> x.storms(0, 1, 11, 1));
        for (int far : FAR_OUT) {
            CHECK.illegal("packets " + far, () -> x.storms(0, far, 1, 1));
            CHECK.illegal("tenths " + far, () -> x.storms(0, 1, far, 1));
            CHECK.noSuch("flow " + far, () -> x.storms(far, 0, 11, 1));
        }
        CHECK.noSuch("flow 1", () -> x.storms(1, 1, 1, 1));
        CHECK.noSuch("flow 1, ahead of packets", () -> x.storms(1, 6, 1, 1));
        CHECK.noSuch("flow 32", () -> x.storms(32, 1, 1, 1));
    }

    /** "at most so many PACKETS": any number */
    private static void promise32_most() {
        BentShares x = held("flow 0 50 30 1;");
        // One waits, of two that are told each is not told with 3 tenths.
        CHECK.is("1", x.storms(0, 2, 3, 1), 9);
        CHECK.is("2", x.storms(0, 2, 3, 2), 9 + 2 * 21);
        CHECK.is("3", x.storms(0, 2, 3, 3), 100);
        CHECK.is("0", x.storms(0, 2, 3, 0), 0);
        CHECK.is("-1", x.storms(0, 2, 3, -1), 0);
        CHECK.is("far below", x.storms(0, 2, 3, Integer.MIN_VALUE), 0);
        CHECK.is("far above", x.storms(0, 2, 3, Integer.MAX_VALUE), 100);
        BentShares none = Checks.linked("class;flow 0 50 30 1;");
        CHECK.is("0 where none wait", none.storms(0, 5, 3, 0), 100000);
        CHECK.is("-1 where none wait", none.storms(0, 5, 3, -1), 0);
    }

    /** "with so many tenths (0 to 10)": never, always */
    private static void promise32_neverAndAlways() {
        BentShares x = held("flow 0 10 5 1;");
        for (int packets = 1; packets <= 5; packets++) {
            int all = 1;
            for (int i = 0; i < packets; i++) {
                all *= 10;
            }
            // Ten are told in 100 units.
            CHECK.is("none is left out", x.storms(0, packets, 0, 10), 0);
            CHECK.is("all are told", x.storms(0, packets, 0, 11), all);
            CHECK.is("as many are left out", x.storms(0, packets, 10, 11 - packets), all);
            CHECK.is("no more", x.storms(0, packets, 10, 10 - packets), 0);
        }
    }

    /** Each number of packets and of tenths, by the ways in which none, one, two .. are not told. */
    private static void promise32_allTenths() {
        BentShares x = held("flow 0 20 5 1;");
        for (int packets = 1; packets <= 5; packets++) {
            for (int tenths = 0; tenths <= 10; tenths++) {
                int due = 0;
                int ways = 1;
                for (int left = packets; left >= 0; left--) {
                    // At most 6 less so many wait: one that waits already, five that are told.
                    int likely = ways;
                    for (int i = 0; i < packets; i++) {
                        likely *= i < left ? tenths : 10 - tenths;
                    }
                    due += likely;
                    CHECK.is("of " + packets + " by " + tenths + " at least " + left, x.storms(0, packets, tenths, 6 - left), due);
                    ways = ways * left / (packets - left + 1);
                }
            }
        }
    }

    /** The next are told in units one behind the other. */
    private static void promise32_inEachUnit() {
        BentShares x = Checks.linked("class;flow 0 1 0 1;");
        x.come(0, 10);
        CHECK.is("ten wait ever after", x.then(0, 100, 1), 10);
        CHECK.is("ten", x.storms(0, 3, 3, 10), 1000);
        CHECK.is("nine", x.storms(0, 3, 3, 9), 1000 - 343);
        CHECK.is("eight", x.storms(0, 3, 3, 8), 27 + 189);
        CHECK.is("seven", x.storms(0, 3, 3, 7), 27);
        CHECK.is("six", x.storms(0, 3, 3, 6), 0);
    }

    /** "behind 100 UNITS": one told in the last of them counts */
    private static void promise32_behind100() {
        CHECK.is("in the 100th", held("flow 0 200 100 1;").storms(0, 1, 3, 1), 3);
        CHECK.is("in the 101st", held("flow 0 200 101 1;").storms(0, 1, 3, 1), 10);
        CHECK.is("in the first", held("flow 0 200 1 1;").storms(0, 1, 3, 1), 3);
    }

    /** "(fewer told in time: all ways alike)": in all, 10 to the power of n ways */
    private static void promise32_fewerToldInTime() {
        CHECK.is("one of five", held("flow 0 200 100 1;").storms(0, 5, 3, 1), 30000);
        CHECK.is("two of five", held("flow 0 90 2 1;").storms(0, 5, 3, 1), 9000);
        CHECK.is("none of five", held("flow 0 5 7 1;").storms(0, 5, 3, 1), 100000);
    }

    /** "of the next n PACKETS that a FLOW tells, STOPPED ones not" */
    private static void promise32_stoppedOnes() {
        BentShares x = held("flow 0 90 2 1;flow 0 90 3 1;");
        CHECK.is("the second flow's come", x.storms(0, 2, 3, 3), 9);
        x.stop(1);
        CHECK.is("stopped, they don't", x.storms(0, 2, 3, 1), 9);
        CHECK.is("of it all ways are alike", x.storms(1, 5, 3, 3), 100000);
        CHECK.is("the first flow's come", x.storms(1, 5, 3, 2), 0);
        x.stop(1);
        CHECK.is("it goes again", x.storms(1, 2, 3, 3), 9);
    }

    /** "of the next n": those behind them are told; one that is lost is one of them */
    private static void promise32_theNext() {
        BentShares x = held("flow 0 30 3 1;");
        CHECK.is("the first of four", x.storms(0, 1, 3, 4), 3);
        CHECK.is("two of four", x.storms(0, 2, 3, 3), 9);
        for (int i = 0; i < 30; i++) {
            x.come(0, 1);
        }
        CHECK.is("the queue is full", x.of(0, 8), 20);
        CHECK.is("all are lost, told or not", x.storms(0, 3, 3, 20), 1000);
        CHECK.is("none of those that wait go", x.storms(0, 3, 3, 19), 0);
    }

    // ---- promise 33

    /** "NoSuchElementException: another what. IllegalArgumentException (behind that): n." */
    private static void promise33_wrongNumbers() {
        BentShares x = Checks.linked("class;flow 0 1 0 1;");
        CHECK.illegal("61", () -> x.years(1, 61, 0));
        CHECK.noSuch("what 3", () -> x.years(1, 1, 3));
        CHECK.noSuch("what 3, ahead of n", () -> x.years(1, 61, 3));
        for (int far : FAR_OUT) {
            CHECK.illegal("n " + far, () -> x.years(1, far, 2));
            CHECK.noSuch("what " + far, () -> x.years(1, -1, far));
        }
    }

    /** "the most PACKETS in all QUEUES behind any of these tens (0 without)" */
    private static void promise33_noYears() {
        BentShares x = held("flow 0 10 5 1;");
        Checks.comes(x, 0, 1, 2, 3);
        for (int what = 0; what < 3; what++) {
            CHECK.is("of none", x.years(5, 0, what), 0);
        }
        // By this seed nothing but the flow's packet comes.
        int quiet = seedFor(4);
        CHECK.is("behind one: four that wait, one that comes", x.years(quiet, 1, 2), 5);
    }

    private static int seedFor(int event) {
        for (int seed = 0; seed < 1000; seed++) {
            if (new Draws(seed).draw(6) == event) {
                return seed;
            }
        }
        throw new IllegalStateException();
    }

    /** "A seed becomes itself times 1103515245 and 12345 (an int that wraps); a DRAW of n is its bits 16 to 30 MOD n" */
    private static final class Draws {
        private long seed;

        Draws(int seed) {
            this.seed = seed;
        }

        int draw(int n) {
            long wrapped = Math.floorMod(Math.floorMod(seed, 1L << 32) * 1103515245L + 12345L, 1L << 32);
            seed = wrapped;
            return (int) (wrapped / (1 << 16) % (1 << 15) % n);
        }
    }

    /** Years of one leaf that holds what it has: reckoned by draws alone. */
    private static int[] heldYears(int seed, int n, int packets, int leaf, int classes, int flows) {
        Draws draws = new Draws(seed);
        int held = packets;
        int lost = 0;
        int most = 0;
        boolean tells = flows > 0;
        for (int year = 0; year < n; year++) {
            int event = draws.draw(6);
            int cls = event < 3 ? draws.draw(classes) : NONE;
            if (event == 0 || event == 1) {
                draws.draw(event == 0 ? 64 : 100);
            }
            if (event == 3 && flows > 0) {
                tells ^= draws.draw(flows) == 0;
            }
            held = event == 2 && cls == leaf ? 0 : held;
            int come = (event == 0 && cls == leaf ? 1 : 0) + (tells ? 1 : 0);
            lost += Math.max(0, held + come - 20);
            held = Math.min(20, held + come);
            most = Math.max(most, held);
        }
        return new int[] {0, lost, most};
    }

    private static final int[] SEEDS = {0, 1, -1, Integer.MAX_VALUE, Integer.MIN_VALUE, 65535, 65536, -65536, 1103515245, 42};

    private static void years(String what, BentShares x, int leaf, int classes, int flows) {
        int[] many = {1, 2, 3, 10, 59, 60};
        for (int seed : SEEDS) {
            for (int n : many) {
                int[] due = heldYears(seed, n, x.of(leaf, 8), leaf, classes, flows);
                for (int of = 0; of < 3; of++) {
                    CHECK.is(what + ": years(" + seed + ", " + n + ", " + of + ")", x.years(seed, n, of), due[of]);
                }
            }
        }
    }

    /** Seeds that wrap, up to 60 years, with all that is drawn. */
    private static void promise33_theDraws() {
        BentShares x = Checks.linked("class upper 0 30 1;flow 0 10 5 3;flow 0 10 10 1;");
        x.come(0, 64);
        x.units(10);
        years("one leaf", x, 0, 1, 2);
        for (int i = 0; i < 19; i++) {
            x.come(0, 64);
        }
        years("near a full queue", x, 0, 1, 2);
        Checks.comes(x, 0, 64, 64, 64);
        CHECK.is("some are lost already", x.of(0, 7) > 0, true);
        years("behind some that are lost", x, 0, 1, 2);
    }

    /** "(.. without FLOWS behind 3)" nothing is drawn */
    private static void promise33_withoutFlows() {
        BentShares x = Checks.linked("class upper 0 30 1;");
        Checks.comes(x, 0, 64, 1, 1, 1);
        x.units(10);
        years("without flows", x, 0, 1, 0);
    }

    /** "if it is a LEAF, a PACKET COMES .. (drawn all the same)", "EMPTIED, if it has PACKETS" */
    private static void promise33_ofNoLeaf() {
        BentShares x = Checks.linked("class;class in 0;class in 1 upper 0 30 1;flow 2 10 5 3;");
        x.come(2, 64);
        x.units(10);
        years("in two that are no leaves", x, 2, 3, 1);
        for (int i = 0; i < 19; i++) {
            x.come(2, 64);
        }
        years("near a full queue", x, 2, 3, 1);
    }

    /** "(without CLASSES nothing is drawn behind 0 to 2 ..)": nothing comes of it */
    private static void promise33_withoutClasses() {
        BentShares x = new BentShares();
        for (int seed : SEEDS) {
            for (int what = 0; what < 3; what++) {
                CHECK.is("by " + seed, x.years(seed, 60, what), 0);
            }
        }
    }

    /** "BYTES SENT in all of these": one leaf that is never held, packet by packet; none of those sent ahead count */
    private static void promise33_bytesSent() {
        BentShares x = Checks.linked("class;flow 0 10 5 7;");
        x.units(10);
        CHECK.is("sent ahead", x.of(0, 3), 7);
        for (int seed : SEEDS) {
            for (int n = 1; n <= 60; n += 7) {
                CHECK.is("by " + seed + " in " + n, x.years(seed, n, 0), sentInYears(seed, n));
            }
        }
    }

    /** A link of one leaf, two bytes of its first packet are still to be sent. */
    private static int sentInYears(int seed, int n) {
        Draws draws = new Draws(seed);
        java.util.ArrayDeque<Integer> queue = new java.util.ArrayDeque<>();
        int busy = 2;
        int sent = 0;
        boolean tells = true;
        for (int unit = 0; unit < 10 * n; unit++) {
            if (unit % 10 == 0) {
                int event = draws.draw(6);
                if (event < 3) {
                    draws.draw(1);
                }
                int drawn = event == 0 ? draws.draw(64) + 1 : event == 1 ? draws.draw(100) + 1 : 0;
                if (event == 0 && queue.size() < 20) {
                    queue.add(drawn);
                } else if (event == 2) {
                    queue.clear();
                } else if (event == 3) {
                    draws.draw(1);
                    tells = !tells;
                }
            }
            if (unit % 10 == 5 && tells && queue.size() < 20) {
                queue.add(7);
            }
            if (busy == 0 && !queue.isEmpty()) {
                busy = queue.remove();
                sent += busy;
            }
            busy = Math.max(0, busy - 1);
        }
        return sent;
    }

    /** "1 SHARE of the CLASS .. is CHANGED to (M 0 M), M a DRAW of 100 and 1": by M one of 64 goes sooner or later */
    private static void promise33_shareIsChanged() {
        boolean[] met = new boolean[101];
        BentShares x = null;
        for (int seed = 0; seed < 9000; seed++) {
            x = x == null || seed % 300 == 0 ? oneAndNine() : x;
            int m = shareOfFirst(seed);
            if (m > 0 && !met[m]) {
                met[m] = true;
                // Of 8 bytes by M the last ends behind 8 units of virtual time: by then the other one is ahead.
                int ones = 8 * m / 100 + 1;
                CHECK.is("by M of " + m, x.years(seed, 1, 0), ones + 64);
            }
        }
        for (int m = 1; m <= 100; m++) {
            CHECK.is("a seed for M of " + m, met[m], true);
        }
    }

    /** M, if the first year by a seed changes the share of class 0 of two; else 0. */
    private static int shareOfFirst(int seed) {
        Draws draws = new Draws(seed);
        boolean changes = draws.draw(6) == 1 && draws.draw(2) == 0;
        return changes ? draws.draw(100) + 1 : 0;
    }

    /** Virtual times of 1 and 9, the one with packets of 1, the other with one of 64. */
    private static BentShares oneAndNine() {
        BentShares x = Checks.linked("class share 100 0 100;class share 100 0 100;");
        Checks.comes(x, 0, 1, 1, 1, 1, 1, 1, 1, 1, 1, 1, 1, 1, 1);
        Checks.comes(x, 1, 9, 64);
        x.units(10);
        return x;
    }

    /** "(also if it is so)": what was laid with the same numbers is gone all the same */
    private static void promise33_shareIsSoAlready() {
        BentShares x = Checks.linked("class share 7 0 7;class share 0 28 100;");
        Checks.comes(x, 0, 1, 1, 1, 1, 1, 1, 1, 1, 1, 1, 1, 1);
        Checks.comes(x, 1, 1, 64);
        x.units(2);
        int met = 0;
        for (int seed = 0; seed < 50000 && met < 3; seed++) {
            if (shareOfFirst(seed) == 7) {
                CHECK.is("15 and 15 is more than 29", x.years(seed, 1, 0), 65);
                met++;
            }
        }
        CHECK.is("such seeds", met, 3);
        CHECK.is("as it is two go ahead of the other", x.then(0, 10, 0) + x.then(1, 10, 0) - 2, 66);
    }

    /** "(All as ever behind it.)" */
    private static void promise28to33_nothingElseChanges() {
        BentShares x = Checks.linked("class upper 50 9 60;class in 0 grant 9 9 9;class in 0;flow 1 9 0 5;flow 2 7 2 9;");
        Checks.comes(x, 2, 5, 6, 7);
        x.units(33);
        x.note(2, 10, 9);
        x.stop(1);
        String before = Checks.all(x);
        x.other(0);
        x.look(0);
        x.storms(0, 5, 5, 9);
        for (int seed : SEEDS) {
            x.years(seed, 60, 0);
        }
        CHECK.is("all is as it was", Checks.all(x), before);
        CHECK.is("nor is anything counted", Checks.status(x), "0 0 0");
    }
}
