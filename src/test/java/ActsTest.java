/** Promises 10 to 16, 35 and 36: acts, how they are undone, the image. */
public final class ActsTest {
    private static final Checks CHECK = new Checks();
    private static final int NONE = BentShares.NONE;

    public static void main(String[] args) {
        promise10();
        promise10Wakes();
        promise11();
        promise11Chosen();
        promise11Upper();
        promise12();
        promise12Refused();
        promise13();
        promise14();
        promise15();
        promise16();
        promise35();
        promise36();
        CHECK.end();
    }

    private static void refused(String what, BentShares x, int got, int times) {
        CHECK.is(what, got, NONE);
        CHECK.is(what + " is counted", x.count(16), times);
    }

    private static void promise10() {
        BentShares x = Checks.linked("class;class in 0;class;");
        for (int i = 1; i <= 20; i++) {
            CHECK.is("10: come", x.come(1, 1 + i % 64), i);
        }
        CHECK.is("10: lost", x.come(1, 64), 20);
        CHECK.is("10: lost is counted", x.count(8), 1);
        CHECK.is("10: lost is an act, too", x.count(12), 21);
        CHECK.is("10: the greatest size", x.come(2, 64), 1);
        CHECK.is("10: the least size", x.come(2, 1), 2);
        CHECK.is("10: those that it is in are active", x.of(0, 2), 1);
        refused("10: no leaf", x, x.come(0, 1), 1);
        refused("10: no class", x, x.come(3, 1), 2);
        refused("10: no class below", x, x.come(-1, 1), 3);
        refused("10: size 0", x, x.come(2, 0), 4);
        refused("10: size 65", x, x.come(2, 65), 5);
        CHECK.is("10: a refused one is no act", x.count(12), 23);
    }

    private static void promise10Wakes() {
        BentShares half = Checks.linked("class share 7 0 7;class;class;class;");
        half.come(0, 1);
        half.come(0, 1);
        half.come(1, 9);
        half.units(1);
        CHECK.is("10: hundred by 7, up", half.of(0, 5), 15);
        half.come(2, 5);
        CHECK.is("10: half of 0 and 15, down", half.of(2, 5), 7);
        half.come(3, 5);
        CHECK.is("10: of three the least and the greatest", half.of(3, 5), 7);

        BentShares peak = Checks.linked("class;class;");
        peak.come(0, 10);
        peak.units(1);
        peak.come(1, 5);
        CHECK.is("10: no other is active: the peak", peak.of(1, 5), 100);

        BentShares own = Checks.linked("class;class;");
        own.come(0, 10);
        own.come(1, 20);
        own.units(1);
        own.come(0, 5);
        CHECK.is("10: its own is greater", own.of(0, 5), 100);

        BentShares inside = Checks.linked("class;class in 0;class;");
        inside.come(2, 30);
        inside.come(2, 30);
        inside.units(1);
        inside.come(1, 5);
        CHECK.is("10: the one inside by its own peers", inside.of(1, 5), 0);
        CHECK.is("10: the one outside by its peers", inside.of(0, 5), 300);
        CHECK.is("10: peak of the link", inside.count(9), 300);
        CHECK.is("10: a waking one counts for the peak", inside.of(0, 6), 0);
        inside.units(100);
        CHECK.is("10: sent of both", inside.of(0, 3), 5);
        CHECK.is("10: five bytes above where it woke", inside.of(0, 5), 350);
        CHECK.is("10: five bytes above 0", inside.of(1, 5), 50);
        CHECK.is("10: peak inside", inside.of(0, 6), 50);

        // Laid twice, the greatest counts: flat for 10, from 0 and from 100 on.
        BentShares flat = Checks.linked("class share 0 10 100;");
        flat.come(0, 1);
        flat.units(1);
        CHECK.is("10: flat, then one by one", flat.of(0, 5), 11);
        flat.come(0, 1);
        CHECK.is("10: wakes where it is", flat.of(0, 5), 11);
        flat.units(1);
        CHECK.is("10: flat again", flat.of(0, 5), 22);
    }

    private static void promise11() {
        BentShares x = new BentShares();
        CHECK.is("11: one", x.units(1), 1);
        CHECK.is("11: hundred", x.units(100), 101);
        refused("11: none", x, x.units(0), 1);
        refused("11: below", x, x.units(-5), 2);
        refused("11: too many", x, x.units(101), 3);
        refused("11: far too many", x, x.units(Integer.MAX_VALUE), 4);
        for (int i = 0; i < 18; i++) {
            x.units(100);
        }
        CHECK.is("11: the last ones", x.units(99), 2000);
        refused("11: above 2000", x, x.units(1), 5);
        CHECK.is("11: all else is as it was", x.count(2), 2000);
        x.undo();
        refused("11: one too many", x, x.units(100), 6);

        BentShares y = Checks.linked("class;flow 0 5 0 3;flow 0 5 0 2;flow 0 3 3 1;");
        y.units(1);
        CHECK.is("11: told and chosen in one unit", y.of(0, 3), 3);
        CHECK.is("11: flow by flow", y.packet(0, 0), 2);
        CHECK.is("11: busy is one less", y.count(3), 2);
        y.units(2);
        CHECK.is("11: busy no more", y.count(3), 0);
        CHECK.is("11: not yet", y.of(0, 3), 3);
        y.units(1);
        CHECK.is("11: the next one", y.of(0, 3), 5);
        y.units(96);
        CHECK.is("11: a phase that never comes tells none", y.of(0, 3), 100);
    }

    private static void promise11Chosen() {
        BentShares least = Checks.linked("class grant 50 0 50;class grant 50 0 50;class;");
        least.come(2, 1);
        least.come(1, 5);
        least.come(0, 10);
        least.units(1);
        CHECK.is("11: the least deadline", least.count(11), 1);
        CHECK.is("11: by grant", least.count(7), 1);
        least.units(5);
        CHECK.is("11: then the other", least.count(11), 0);
        least.units(10);
        CHECK.is("11: then by share", least.count(11), 2);
        CHECK.is("11: not by grant", least.count(7), 2);
        CHECK.is("11: not granted", least.of(2, 4), 0);

        BentShares like = Checks.linked("class grant 50 0 50;class grant 50 0 50;");
        like.come(1, 5);
        like.come(0, 5);
        like.units(1);
        CHECK.is("11: of like deadlines the least number", like.count(11), 0);

        // Only what is eligible goes by its deadline: behind 10 bytes that is from 100 on.
        BentShares wait = Checks.linked("class grant 10 0 10;class;");
        wait.come(0, 10);
        wait.come(0, 10);
        wait.come(1, 10);
        wait.units(10);
        CHECK.is("11: by grant first", wait.of(0, 4), 10);
        wait.units(20);
        CHECK.is("11: the rest by share", wait.of(0, 3), 20);
        CHECK.is("11: by share nothing is granted", wait.of(0, 4), 10);

        BentShares virtual = Checks.linked("class;class in 0;class in 0 share 20 0 20;class;");
        virtual.come(1, 10);
        virtual.come(1, 10);
        virtual.come(2, 10);
        virtual.come(2, 10);
        virtual.come(2, 10);
        virtual.come(3, 10);
        int[] order = {1, 3, 2, 2, 1, 2};
        for (int i = 0; i < order.length; i++) {
            virtual.units(1);
            CHECK.is("11: by the least virtual time, " + i, virtual.count(11), order[i]);
            virtual.units(9);
        }
        CHECK.is("11: all are sent", virtual.count(5), 0);
        CHECK.is("11: of 1", virtual.of(1, 5), 200);
        CHECK.is("11: of 2", virtual.of(2, 5), 150);
        CHECK.is("11: of 0", virtual.of(0, 5), 500);
    }

    private static void promise11Upper() {
        BentShares x = Checks.linked("class upper 50 0 50;class in 0;class in 0 upper 10 0 10;class;");
        x.come(1, 4);
        x.come(2, 4);
        x.come(2, 4);
        x.units(4);
        CHECK.is("11: the first", x.count(11), 1);
        x.units(4);
        CHECK.is("11: upper of the outer one holds till 8", x.count(6), 1);
        x.units(1);
        CHECK.is("11: then one goes", x.count(11), 2);
        x.units(31);
        CHECK.is("11: upper of the leaf holds till 40", x.count(6), 2);
        x.units(1);
        CHECK.is("11: laid at 0 it reaches 4 at 40", x.count(6), 3);
    }

    private static void promise12() {
        BentShares x = Checks.linked("class;class;");
        x.come(0, 10);
        x.come(0, 10);
        x.units(1);
        CHECK.is("12: there was one", x.change(0, 1, 20, 0, 20), 1);
        CHECK.is("12: virtual time stays", x.of(0, 5), 100);
        x.units(10);
        CHECK.is("12: laid at (100, 10)", x.of(0, 5), 150);

        BentShares y = Checks.linked("class;class;");
        y.come(0, 10);
        y.come(0, 10);
        y.units(1);
        CHECK.is("12: there was no upper", y.change(0, 2, 10, 0, 10), 0);
        CHECK.is("12: laid at (1, 10)", y.due(0, 2), 1);
        CHECK.is("12: there was no grant", y.change(0, 0, 10, 0, 10), 0);
        CHECK.is("12: laid at (1, 0), eligible", y.due(0, 0), 1);
        CHECK.is("12: laid at (1, 0), deadline", y.due(0, 1), 101);
        CHECK.is("12: there was one", y.change(0, 0, 0, 30, 100), 1);
        CHECK.is("12: another one", y.due(0, 1), 41);
        y.change(1, 0, 10, 0, 10);
        y.change(1, 0, 10, 0, 11);
        y.units(49);
        y.come(1, 11);
        CHECK.is("12: one that isn't active is laid when it wakes", y.due(1, 0), 50);
        CHECK.is("12: by the curve that it has then", y.due(1, 1), 150);

        // What was laid of one that isn't active is gone, too.
        BentShares z = Checks.linked("class upper 1 0 1;");
        z.come(0, 2);
        z.units(1);
        z.change(0, 2, 1, 1, 1);
        z.come(0, 2);
        CHECK.is("12: of before nothing is left", z.due(0, 2), 1);
    }

    private static void promise12Refused() {
        BentShares x = Checks.linked("class;class in 0 grant 1 1 1;");
        int[][] wrong = {{2, 1, 1, 1, 1}, {-1, 1, 1, 1, 1}, {1, 3, 1, 1, 1}, {1, -1, 1, 1, 1}, {1, 1, -1, 1, 1},
            {1, 1, 101, 1, 1}, {1, 1, 1, -1, 1}, {1, 1, 1, 31, 1}, {1, 1, 1, 1, 0}, {1, 1, 1, 1, 101}, {0, 0, 5, 5, 5},
            {1, 0, 1, 1, 1}, {0, 1, 10, 0, 10}};
        for (int i = 0; i < wrong.length; i++) {
            int[] c = wrong[i];
            refused("12: refused " + i, x, x.change(c[0], c[1], c[2], c[3], c[4]), i + 1);
        }
        CHECK.is("12: the edges", x.change(1, 1, 100, 30, 100), 1);
        CHECK.is("12: the edges below", x.change(1, 2, 0, 0, 1), 0);
        CHECK.is("12: of an inner one", x.change(0, 2, 0, 30, 1), 0);
        CHECK.is("12: acts", x.count(12), 3);
    }

    private static void promise13() {
        BentShares x = Checks.linked("class;class in 0;class in 0;");
        x.come(1, 5);
        x.come(1, 6);
        x.come(2, 7);
        CHECK.is("13: two", x.empty(1), 2);
        CHECK.is("13: the leaf isn't active", x.of(1, 2), 0);
        CHECK.is("13: in the other one is one", x.of(0, 2), 1);
        CHECK.is("13: one", x.empty(2), 1);
        CHECK.is("13: none is in it any more", x.of(0, 2), 0);
        CHECK.is("13: nor in the link", x.count(5), 0);
        CHECK.is("13: emptied is not lost", x.count(8), 0);
        refused("13: none are", x, x.empty(1), 1);
        x.come(1, 5);
        refused("13: no leaf", x, x.empty(0), 2);
        refused("13: no class", x, x.empty(3), 3);
        refused("13: no class below", x, x.empty(-1), 4);
        x.units(1);
        CHECK.is("13: what comes then is sent", x.of(0, 3), 5);
        CHECK.is("13: busy stays", x.count(3), 4);
    }

    private static void promise14() {
        BentShares x = Checks.linked("class;class in 0 grant 1 0 1 upper 1 0 1;");
        x.come(1, 5);
        x.come(1, 5);
        x.units(1);
        CHECK.is("14: upper holds", x.due(1, 2), 500);
        CHECK.is("14: upper", x.lift(1, 2), true);
        CHECK.is("14: it holds no more", x.due(1, 2), 0);
        CHECK.is("14: grant", x.lift(1, 0), true);
        CHECK.noSuch("14: there is none", () -> x.curve(1, 0, 0));
        CHECK.noSuch("14: nor is it due", () -> x.due(1, 0));
        int[][] wrong = {{1, 2}, {1, 0}, {1, 1}, {1, 3}, {1, -1}, {2, 0}, {-1, 0}, {0, 0}};
        for (int i = 0; i < wrong.length; i++) {
            CHECK.is("14: refused " + i, x.lift(wrong[i][0], wrong[i][1]), false);
            CHECK.is("14: refused is counted", x.count(16), i + 1);
        }
        x.units(4);
        x.change(1, 2, 1, 0, 1);
        CHECK.is("14: nothing is left of what was laid", x.due(1, 2), 5);
    }

    private static void promise15() {
        BentShares x = Checks.linked("class;flow 0 10 0 3;flow 0 10 5 4;flow 0 200 199 1;");
        CHECK.is("15: the second", x.stop(1), 2);
        CHECK.is("15: the third, too", x.stop(2), 6);
        CHECK.is("15: the first, too", x.stop(0), 7);
        x.units(10);
        CHECK.is("15: none is told", x.count(6), 0);
        CHECK.is("15: the second goes again", x.stop(1), 5);
        x.units(20);
        CHECK.is("15: it tells its own", x.of(0, 3), 8);
        refused("15: no flow", x, x.stop(3), 1);
        refused("15: no flow below", x, x.stop(-1), 2);
        BentShares eight = Checks.linked("class;" + "flow 0 9 9 1;".repeat(8));
        CHECK.is("15: the eighth", eight.stop(7), 128);
    }

    private static void promise16() {
        BentShares x = Checks.linked("class;class in 0 grant 9 9 9;flow 1 3 0 2;");
        x.come(1, 5);
        x.units(2);
        x.come(1, 7);
        x.change(1, 1, 7, 7, 7);
        x.lift(1, 0);
        x.stop(0);
        x.empty(1);
        x.come(2, 1);
        CHECK.is("16: acts", x.count(12), 7);
        CHECK.is("16: empty", x.undo(), 6);
        CHECK.is("16: the packets are back", x.of(1, 8), 2);
        CHECK.is("16: in their order", x.packet(1, 1), 7);
        CHECK.is("16: and active", x.of(0, 2), 1);
        CHECK.is("16: stop", x.undo(), 5);
        CHECK.is("16: the flow goes", x.next(3, 0), 1);
        CHECK.is("16: lift", x.undo(), 4);
        CHECK.is("16: the grant is back", x.curve(1, 0, 1), 9);
        CHECK.is("16: where it was laid", x.due(1, 1), 78);
        CHECK.is("16: change", x.undo(), 3);
        CHECK.is("16: the share is back", x.curve(1, 1, 0), 10);
        CHECK.is("16: come", x.undo(), 2);
        CHECK.is("16: it came not", x.of(1, 9), 2);
        CHECK.is("16: units", x.undo(), 1);
        CHECK.is("16: the time", x.count(2), 0);
        CHECK.is("16: not sent", x.of(0, 3) + x.of(1, 4) + x.count(9) + x.count(6), 0);
        CHECK.is("16: none was last", x.count(11), NONE);
        CHECK.is("16: the first", x.undo(), 0);
        CHECK.is("16: not active", x.of(0, 2), 0);
        CHECK.is("16: there is none", x.undo(), NONE);
        CHECK.is("16: status stays", x.count(16), 1);

        BentShares many = Checks.linked("class;");
        for (int i = 1; i <= 45; i++) {
            many.units(1);
        }
        CHECK.is("16: forty are kept", many.count(12), 40);
        for (int left = 39; left >= 0; left--) {
            CHECK.is("16: one by one", many.undo(), left);
            CHECK.is("16: the latest ones", many.count(2), left + 5);
        }
        CHECK.is("16: no more", many.undo(), NONE);
        many.come(0, 1);
        CHECK.is("16: and again", many.undo(), 0);
    }

    private static void promise35() {
        BentShares x = Checks.linked("class;");
        x.come(0, 5);
        x.image();
        x.come(0, 6);
        x.image();
        x.come(0, 7);
        CHECK.is("35: restored", x.restore(), true);
        CHECK.is("35: in place of another one", x.of(0, 8), 2);
        CHECK.is("35: no act", x.count(12), 2);
    }

    private static void promise36() {
        BentShares x = Checks.linked("class upper 5 0 5;flow 0 9 0 3;");
        CHECK.is("36: there is none", x.restore(), false);
        CHECK.is("36: that is no act", x.count(16), 0);
        x.units(3);
        x.come(0, 0);
        x.note(0, 1, 1);
        x.note(0, 101, 1);
        x.stop(0);
        x.image();
        int due = x.then(0, 300, 2);
        x.undo();
        x.undo();
        x.come(0, 9);
        x.lift(0, 2);
        x.units(50);
        x.come(9, 9);
        x.forget();
        x.note(9, 9, 9);
        Checks.link(x, "flow");
        for (int times = 0; times < 2; times++) {
            CHECK.is("36: restored", x.restore(), true);
            int[] all = {1, 1, 3, 0, 0, 0, 1, 0, 0, 30, 3, 0, 2, 1, 0, 0, 1, 1};
            for (int what = 0; what < 18; what++) {
                CHECK.is("36: count(" + what + ")", x.count(what), all[what]);
            }
            CHECK.is("36: upper is back", x.curve(0, 2, 2), 5);
            CHECK.is("36: all goes as it would", x.then(0, 300, 2), due);
            CHECK.is("36: the place of the fault stays", x.fault(), 4);
            CHECK.is("36: acts are undone", x.undo(), 1);
            CHECK.is("36: the flow goes again", x.next(1, 1), 60);
            x.come(0, 1);
        }
    }
}
