/** Promises 28 to 33: what is noted, other sizes, where to look next, storms, years. */
public final class NotedTest {
    private static final Checks CHECK = new Checks();
    private static final int NONE = BentShares.NONE;

    public static void main(String[] args) {
        promise28();
        promise29();
        promise30();
        promise31();
        promise32();
        promise33();
        promise33Draws();
        CHECK.end();
    }

    private static void promise28() {
        BentShares x = Checks.linked("class;class in 0;");
        int[][] wrong = {{2, 0, 0}, {-1, 0, 0}, {0, -1, 0}, {0, 101, 0}, {0, 0, -1}, {0, 0, 10000}};
        for (int i = 0; i < wrong.length; i++) {
            CHECK.is("28: refused " + i, x.note(wrong[i][0], wrong[i][1], wrong[i][2]), NONE);
            CHECK.is("28: refused is counted", x.count(17), i + 1);
        }
        CHECK.is("28: one", x.note(0, 100, 9999), 1);
        CHECK.is("28: the same once more", x.note(0, 100, 9999), 2);
        for (int i = 3; i <= 8; i++) {
            CHECK.is("28: more", x.note(1, 0, 0), i);
        }
        CHECK.is("28: there are 8", x.note(1, 0, 0), NONE);
        CHECK.is("28: noted", x.count(13), 8);
        CHECK.is("28: refused", x.count(17), 7);
        CHECK.is("28: no act", x.count(12) + x.count(16), 0);
    }

    private static void others(String what, BentShares x, int many, int first, int without) {
        CHECK.is("29: how many " + what, x.other(0), many);
        CHECK.is("29: the first " + what, x.other(1), first);
        CHECK.is("29: without " + what, x.other(2), without);
    }

    private static void promise29() {
        BentShares x = Checks.linked("class;flow 0 10 0 1;");
        others("with none noted", x, 63, 2, 1);
        x.note(0, 0, 0);
        others("behind 0 units nothing is sent", x, 63, 2, 1);
        x.note(0, 1, 7);
        others("by the first packet", x, 1, 7, 0);
        x.note(0, 11, 14);
        others("by the second one, too", x, 1, 7, 0);
        x.note(0, 10, 8);
        others("by none", x, 0, NONE, 0);
        x.forget();
        x.note(0, 1, 1);
        others("so it is", x, 0, NONE, 1);
        CHECK.noSuch("29: what", () -> x.other(3));
        CHECK.noSuch("29: what below", () -> x.other(-1));

        BentShares two = Checks.linked("class;class;flow 0 100 0 5;flow 1 100 1 6;");
        others("of two flows", two, 126, 1, 1);
        two.note(1, 100, 9);
        others("by the second flow", two, 1, 109, 0);
        two.forget();
        two.note(0, 99, 64);
        two.units(1);
        others("from now on the first tells none in time", two, 0, NONE, 0);
        two.forget();
        two.note(1, 70, 6);
        others("any of the first flow does", two, 63, 1, 1);
        two.stop(1);
        others("a stopped flow sends none", two, 0, NONE, 0);
        two.forget();
        two.note(1, 70, 0);
        others("a stopped flow might have any", two, 126, 1, 1);
        CHECK.is("29: nothing changes", two.count(12), 2);

        // What was noted counts from now on, whenever now is.
        BentShares now = Checks.linked("class;flow 0 10 0 5;");
        now.note(0, 10, 5);
        now.units(33);
        others("as much as ever", now, 0, NONE, 1);
    }

    private static void promise30() {
        BentShares x = Checks.linked("class;class;flow 1 10 0 5;");
        // Below 50: fives, but not 25; 50 to 64 all; 66 to 98 the even ones, and 69.
        CHECK.is("30: which", x.look(0), 1);
        CHECK.is("30: how many unlike", x.look(1), 8 + 15 + 18);
        x.note(1, 1, 8);
        CHECK.is("30: by one alone all are like", x.look(0), 0);
        CHECK.is("30: one", x.look(1), 1);
        x.note(1, 0, 1);
        CHECK.is("30: none", x.look(0), NONE);
        CHECK.is("30: none unlike", x.look(1), 0);
        CHECK.noSuch("30: what", () -> x.look(2));
        CHECK.noSuch("30: what below", () -> x.look(-1));

        BentShares in = Checks.linked("class;class;class in 1;flow 2 100 0 5;");
        CHECK.is("30: of like ones the least", in.look(0), 1);
        CHECK.is("30: all unlike", in.look(1), 63);
        in.note(2, 100, 5);
        CHECK.is("30: also noted behind more than 50 units", in.look(1), 0);
        BentShares late = Checks.linked("class;flow 0 100 50 5;");
        CHECK.is("30: behind 50 units nothing is sent yet", late.look(1), 1);
        late.units(1);
        CHECK.is("30: now it is", late.look(1), 63);
        CHECK.is("30: without flows", Checks.linked("class;").look(0), NONE);
    }

    private static void promise31() {
        BentShares x = Checks.linked("class;flow 0 10 0 1;");
        x.note(0, 0, 1);
        x.note(0, 0, 2);
        x.forget();
        CHECK.is("31: none", x.count(13), 0);
        CHECK.is("31: nothing binds", x.other(0), 63);
        x.forget();
        CHECK.is("31: from the first again", x.note(0, 0, 0), 1);
        CHECK.is("31: no act", x.count(12), 0);
    }

    private static void promise32() {
        BentShares x = Checks.linked("class upper 1 0 1;flow 0 20 0 5;class;");
        // Of five packets the first that is told goes at once, and none behind it.
        CHECK.is("32: at most one is told", x.storms(0, 5, 3, 0), 243 + 5 * 81 * 7);
        CHECK.is("32: all ways", x.storms(0, 5, 3, 4), 100000);
        CHECK.is("32: none can be", x.storms(0, 5, 3, -1), 0);
        CHECK.is("32: surely told", x.storms(0, 5, 0, 3), 0);
        CHECK.is("32: surely told, four wait", x.storms(0, 5, 0, 4), 100000);
        CHECK.is("32: surely not told", x.storms(0, 5, 10, 0), 100000);
        CHECK.is("32: one", x.storms(0, 1, 3, 3), 3);
        CHECK.is("32: one, or not", x.storms(0, 1, 3, 4), 10);
        CHECK.is("32: any most", x.storms(0, 2, 3, Integer.MAX_VALUE), 100);
        CHECK.is("32: any most below", x.storms(0, 2, 3, Integer.MIN_VALUE), 0);
        x.come(0, 1);
        x.come(1, 1);
        CHECK.is("32: who waits already counts", x.storms(0, 5, 10, 0), 100000);
        x.come(0, 1);
        CHECK.is("32: who waits already counts, too", x.storms(0, 5, 10, 0), 0);
        CHECK.noSuch("32: no flow", () -> x.storms(1, 1, 1, 1));
        CHECK.noSuch("32: no flow, ahead of packets", () -> x.storms(-1, 0, 11, 1));
        CHECK.illegal("32: packets", () -> x.storms(0, 0, 1, 1));
        CHECK.illegal("32: too many packets", () -> x.storms(0, 6, 1, 1));
        CHECK.illegal("32: tenths", () -> x.storms(0, 1, 11, 1));
        CHECK.illegal("32: tenths below", () -> x.storms(0, 1, -1, 1));

        BentShares few = Checks.linked("class upper 1 0 1;flow 0 60 0 5;flow 0 60 59 1;");
        CHECK.is("32: two are told in time, of another flow one", few.storms(0, 5, 3, 1), 51000);
        few.stop(0);
        CHECK.is("32: a stopped one tells none", few.storms(0, 5, 3, 0), 100000);
        BentShares never = Checks.linked("class upper 1 0 1;flow 0 5 7 5;");
        CHECK.is("32: one that never tells", never.storms(0, 3, 3, 0), 1000);
        CHECK.is("32: nothing changes", x.count(2) + few.of(0, 3), 0);
    }

    private static void promise33() {
        BentShares x = Checks.linked("class;flow 0 10 0 3;");
        for (int what = 0; what < 3; what++) {
            CHECK.is("33: no years", x.years(7, 0, what), 0);
        }
        CHECK.noSuch("33: what", () -> x.years(7, 0, 3));
        CHECK.noSuch("33: what, ahead of n", () -> x.years(7, 61, -1));
        CHECK.illegal("33: n", () -> x.years(7, 61, 0));
        CHECK.illegal("33: n below", () -> x.years(7, -1, 0));
        x.units(5);
        int sent = x.years(12345, 60, 0);
        CHECK.is("33: the same again", x.years(12345, 60, 0), sent);
        CHECK.is("33: all as ever behind it", x.count(2) * 10000 + x.count(12) * 1000 + x.of(0, 3), 51003);
        BentShares none = new BentShares();
        CHECK.is("33: without classes", none.years(5, 60, 0) + none.years(5, 60, 1) + none.years(5, 60, 2), 0);
    }

    private static long seed;

    private static int draw(int n) {
        seed = (seed * 1103515245L + 12345L) & 0xffffffffL;
        return (int) ((seed >> 16 & 0x7fff) % n);
    }

    /** One class that holds at most 20, one flow: reckoned without a link, for all is sent or waits. */
    private static void promise33Draws() {
        int[] met = new int[6];
        for (int first = -40; first < 400; first++) {
            int start = first * 7919333;
            BentShares x = Checks.linked("class;flow 0 10 0 3;");
            seed = start & 0xffffffffL;
            int event = draw(6);
            met[event]++;
            int cls = event < 3 ? draw(1) : 0;
            int size = event == 0 ? draw(64) + 1 : 0;
            // The packet that comes is ahead of the flow's: that one goes in the same ten units, if size is below 10.
            int sent = event == 0 ? size + (size < 10 ? 3 : 0) : event == 3 ? 0 : 3;
            CHECK.is("33: sent by seed " + start, x.years(start, 1, 0), sent + cls);
            CHECK.is("33: lost by seed " + start, x.years(start, 1, 1), 0);
            CHECK.is("33: most by seed " + start, x.years(start, 1, 2), event == 0 && size >= 10 ? 1 : 0);
        }
        for (int event = 0; event < 6; event++) {
            CHECK.is("33: event " + event + " was met", met[event] > 0, true);
        }
        // A full queue that upper holds: what comes is lost, unless the queue was emptied first.
        for (int start = 0; start < 200; start++) {
            BentShares x = Checks.linked("class upper 0 30 1;class;class in 1;");
            for (int i = 0; i < 21; i++) {
                x.come(0, 64);
            }
            x.units(64);
            x.come(0, 64);
            seed = start;
            int held = 20;
            int lost = 0;
            int most = 0;
            int sent = 0;
            for (int year = 0; year < 6; year++) {
                int event = draw(6);
                int cls = event < 3 ? draw(3) : NONE;
                int size = event == 0 ? draw(64) + 1 : event == 1 ? draw(100) + 1 : 0;
                if (event == 2 && cls == 0) {
                    held = 0;
                }
                if (event == 0 && cls == 0) {
                    lost += held == 20 ? 1 : 0;
                    held += held == 20 ? 0 : 1;
                }
                if (event == 0 && cls == 2) {
                    sent += size;
                }
                // Beyond one packet of 2 each reckoning needs the link: such seeds stop here.
                if (sent > 0 || held < 20) {
                    break;
                }
                most = 20;
                CHECK.is("33: lost of " + start, x.years(start, year + 1, 1), lost);
                CHECK.is("33: most of " + start, x.years(start, year + 1, 2), most);
                CHECK.is("33: sent of " + start, x.years(start, year + 1, 0), 0);
            }
        }
    }
}
