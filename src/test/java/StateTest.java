/** Promises 5 to 9: what is counted, what a class has, its curves, its packets, what is due. */
public final class StateTest {
    private static final Checks CHECK = new Checks();
    private static final int NONE = BentShares.NONE;
    private static final String TEXT =
            "class;class in 0 grant 50 0 50;class in 0 upper 10 0 10;class;flow 3 10 2 6;";

    public static void main(String[] args) {
        BentShares x = Checks.linked(TEXT);
        x.come(1, 10);
        x.come(2, 20);
        x.come(2, 5);
        x.units(3);
        promise5(x);
        promise6(x);
        promise7(x);
        promise8(x);
        promise9Fit(x);
        promise9Grant();
        CHECK.end();
    }

    /** The first packet of 1 went by grant; the flow told one in unit 2. */
    private static void promise5(BentShares x) {
        int[] due = {4, 1, 3, 7, 2, 3, 1, 1, 0, 100, 10, 1, 4, 0, 0, 0, 0, 0};
        for (int what = 0; what < due.length; what++) {
            CHECK.is("5: count(" + what + ")", x.count(what), due[what]);
        }
        CHECK.noSuch("5: below", () -> x.count(-1));
        CHECK.noSuch("5: above", () -> x.count(18));
        CHECK.noSuch("5: far above", () -> x.count(Integer.MAX_VALUE));
        x.note(0, 0, 0);
        x.note(9, 0, 0);
        x.come(0, 1);
        x.come(0, 1);
        Checks.feed(x, "class");
        CHECK.is("5: noted", x.count(13), 1);
        CHECK.is("5: tape", x.count(14), 20);
        x.link(5);
        CHECK.is("5: texts refused", x.count(15), 1);
        CHECK.is("5: acts refused", x.count(16), 2);
        CHECK.is("5: notes refused", x.count(17), 1);
    }

    private static void promise6(BentShares x) {
        int[][] due = {
            {NONE, 0, 1, 10, 0, 100, 100, 0, 0, 0},
            {0, 1, 0, 10, 10, 100, 0, 0, 0, 0},
            {0, 1, 1, 0, 0, 0, 0, 0, 2, 25},
            {NONE, 1, 1, 0, 0, 100, 0, 0, 1, 6}};
        for (int cls = 0; cls < 4; cls++) {
            for (int what = 0; what < 10; what++) {
                CHECK.is("6: of(" + cls + ", " + what + ")", x.of(cls, what), due[cls][what]);
            }
        }
        CHECK.noSuch("6: no class", () -> x.of(4, 0));
        CHECK.noSuch("6: below", () -> x.of(-1, 0));
        CHECK.noSuch("6: what", () -> x.of(0, 10));
        CHECK.noSuch("6: what below", () -> x.of(0, -1));
        BentShares full = Checks.linked("class;class in 0;");
        for (int i = 0; i < 22; i++) {
            full.come(1, 64);
        }
        CHECK.is("6: lost", full.of(1, 7), 2);
        CHECK.is("6: lost is the leaf's alone", full.of(0, 7), 0);
        CHECK.is("6: bytes", full.of(1, 9), 20 * 64);
    }

    private static void promise7(BentShares x) {
        int[] due = {50, 0, 50};
        for (int what = 0; what < 3; what++) {
            CHECK.is("7: grant", x.curve(1, 0, what), due[what]);
        }
        CHECK.is("7: share without", x.curve(3, 1, 0) * 10000 + x.curve(3, 1, 1) * 100 + x.curve(3, 1, 2), 100010);
        BentShares y = Checks.linked("class share 1 2 3 upper 4 5 6;");
        CHECK.is("7: share", y.curve(0, 1, 0) * 100 + y.curve(0, 1, 1) * 10 + y.curve(0, 1, 2), 123);
        CHECK.is("7: upper", y.curve(0, 2, 0) * 100 + y.curve(0, 2, 1) * 10 + y.curve(0, 2, 2), 456);
        CHECK.noSuch("7: none", () -> x.curve(2, 0, 0));
        CHECK.noSuch("7: no upper", () -> x.curve(1, 2, 0));
        CHECK.noSuch("7: curve", () -> x.curve(1, 3, 0));
        CHECK.noSuch("7: curve below", () -> x.curve(1, -1, 0));
        CHECK.noSuch("7: what", () -> x.curve(1, 1, 3));
        CHECK.noSuch("7: what below", () -> x.curve(1, 1, -1));
        CHECK.noSuch("7: no class", () -> x.curve(4, 1, 0));
        CHECK.noSuch("7: no class below", () -> x.curve(-1, 1, 0));
    }

    private static void promise8(BentShares x) {
        CHECK.is("8: first", x.packet(2, 0), 20);
        CHECK.is("8: second", x.packet(2, 1), 5);
        CHECK.is("8: a flow's", x.packet(3, 0), 6);
        CHECK.noSuch("8: none", () -> x.packet(2, 2));
        CHECK.noSuch("8: below", () -> x.packet(2, -1));
        CHECK.noSuch("8: empty", () -> x.packet(1, 0));
        CHECK.noSuch("8: no leaf", () -> x.packet(0, 0));
        CHECK.noSuch("8: no class", () -> x.packet(4, 0));
        CHECK.noSuch("8: no class below", () -> x.packet(-1, 0));
        BentShares y = Checks.linked("class;");
        for (int i = 1; i <= 60; i++) {
            y.come(0, i);
            CHECK.is("8: all the way round", y.packet(0, 0), i);
            y.units(64);
            if (i % 20 == 0) {
                y = Checks.linked("class;");
            }
        }
    }

    private static void promise9Fit(BentShares x) {
        CHECK.is("9: fit of a leaf with upper", x.due(2, 2), 0);
        CHECK.is("9: fit of a leaf without", x.due(3, 2), 0);
        CHECK.is("9: fit of an inner one", x.due(0, 2), 0);
        x.units(8);
        // In unit 10 leaf 2 had its 20 bytes sent: 2000 by 10 is 200.
        CHECK.is("9: fit behind 20 bytes", x.due(2, 2), 200);
        CHECK.is("9: at least the least right in it", x.due(0, 2), 200);
        CHECK.is("9: another one's is 0", x.due(3, 2), 0);
        x.come(1, 3);
        CHECK.is("9: the least of two", x.due(0, 2), 0);
        x.change(0, 2, 100, 0, 100);
        CHECK.is("9: its own is greater", x.due(0, 2), 11);
        CHECK.noSuch("9: not active", () -> Checks.linked("class;").due(0, 2));
        CHECK.noSuch("9: what", () -> x.due(2, 3));
        CHECK.noSuch("9: what below", () -> x.due(2, -1));
        CHECK.noSuch("9: no grant", () -> x.due(2, 0));
        CHECK.noSuch("9: no deadline without", () -> x.due(2, 1));
        CHECK.noSuch("9: no leaf", () -> x.due(0, 0));
        CHECK.noSuch("9: no class", () -> x.due(4, 2));
        CHECK.noSuch("9: no class below", () -> x.due(-1, 2));
    }

    private static void promise9Grant() {
        BentShares late = Checks.linked("class grant 0 10 50;");
        CHECK.noSuch("9: a leaf with grant that isn't active", () -> late.due(0, 0));
        late.come(0, 10);
        late.come(0, 5);
        CHECK.is("9: eligible at once", late.due(0, 0), 0);
        CHECK.is("9: deadline behind the flat piece", late.due(0, 1), 30);
        late.units(1);
        CHECK.is("9: by grant", late.of(0, 4), 10);
        CHECK.is("9: eligible with the second slope alone", late.due(0, 0), 20);
        CHECK.is("9: deadline", late.due(0, 1), 40);

        BentShares soon = Checks.linked("class grant 100 5 10;");
        soon.come(0, 10);
        soon.come(0, 1);
        CHECK.is("9: five bytes soon, five late", soon.due(0, 1), 55);
        soon.units(1);
        CHECK.is("9: eligible with both", soon.due(0, 0), 55);
        CHECK.is("9: deadline of one byte more", soon.due(0, 1), 65);

        // Who was idle has no credit: of all that was laid the latest counts.
        BentShares idle = Checks.linked("class grant 10 0 10;");
        idle.come(0, 1);
        idle.units(50);
        idle.come(0, 1);
        CHECK.is("9: eligible by the second laying", idle.due(0, 0), 50);
        CHECK.is("9: deadline by the second laying", idle.due(0, 1), 60);
        // ... and no debt is forgotten: an early laying may reach later.
        BentShares debt = Checks.linked("class grant 10 0 10;");
        debt.come(0, 10);
        debt.units(20);
        debt.come(0, 1);
        CHECK.is("9: eligible by the first laying", debt.due(0, 0), 100);
        CHECK.is("9: deadline by the first laying", debt.due(0, 1), 110);
    }
}
