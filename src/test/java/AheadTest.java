/** Promises 17 to 27: what is granted, what comes if only units go by. */
public final class AheadTest {
    private static final Checks CHECK = new Checks();
    private static final int NONE = BentShares.NONE;

    public static void main(String[] args) {
        promise17();
        promise18();
        promise19();
        promise20();
        promise21();
        promise22();
        promise23();
        promise24();
        promise25();
        promise26();
        promise27();
        CHECK.end();
    }

    private static void together(String grants, int so, int firstOver, int over) {
        BentShares x = Checks.linked(grants);
        CHECK.is("17: " + grants, x.together(0), so);
        CHECK.is("17: first over of " + grants, x.together(1), firstOver);
        CHECK.is("17: over of " + grants, x.together(2), over);
    }

    private static void promise17() {
        together("", 1, NONE, 0);
        together("class;class share 100 0 100;class share 100 0 100 upper 100 0 100;", 1, NONE, 0);
        together("class grant 100 0 100;", 1, NONE, 0);
        together("class grant 60 0 60;class grant 60 0 60;", 0, 1, 20);
        together("class grant 100 10 50;class grant 0 10 50;", 1, NONE, 0);
        together("class grant 100 10 50;class grant 0 9 50;", 0, 10, 50);
        together("class grant 50 30 51;class grant 50 30 50;", 0, 31, 1);
        together("class grant 50 30 50;class grant 50 30 50;", 1, NONE, 0);
        together("class grant 0 30 100;class grant 0 0 1;", 0, 3001, 1);
        together("class grant 0 30 100;class grant 0 0 3;", 0, 1001, 3);
        together("class grant 100 5 1;class grant 1 0 1;", 0, 1, 1);
        together("class;class in 0 grant 70 0 70;class in 0 grant 0 10 70;", 0, 18, 20);
        BentShares x = Checks.linked("class grant 60 0 60;class grant 60 0 60;");
        x.lift(0, 0);
        CHECK.is("17: a lifted one counts no more", x.together(0), 1);
        x.change(0, 0, 40, 0, 40);
        CHECK.is("17: a changed one as it is", x.together(0), 1);
        CHECK.noSuch("17: what", () -> x.together(3));
        CHECK.noSuch("17: what below", () -> x.together(-1));
    }

    private static void promise18() {
        BentShares x = Checks.linked("class grant 50 0 50;");
        CHECK.is("18: without a first piece", x.toGrant(0, 50), 100);
        CHECK.is("18: none", x.toGrant(0, 51), NONE);
        CHECK.is("18: the rest", x.toGrant(10, 50), 50);
        CHECK.is("18: the rest, then less", x.toGrant(10, 1), 50);
        CHECK.is("18: the longest piece", x.toGrant(30, 1), 50);
        CHECK.illegal("18: D", () -> x.toGrant(31, 1));
        CHECK.illegal("18: D below", () -> x.toGrant(-1, 1));
        CHECK.illegal("18: M2", () -> x.toGrant(0, 101));
        CHECK.illegal("18: M2 below", () -> x.toGrant(0, 0));
        CHECK.is("18: with none granted", new BentShares().toGrant(30, 100), 100);
        CHECK.is("18: what comes later binds", Checks.linked("class grant 0 10 99;").toGrant(20, 1), 50);
        CHECK.is("18: in the end it is too much", Checks.linked("class grant 0 10 100;").toGrant(20, 1), NONE);
        CHECK.is("18: they don't go together", Checks.linked("class grant 60 1 1;class grant 60 1 1;").toGrant(30, 1), NONE);
        CHECK.is("18: nought is one, too", Checks.linked("class grant 100 30 1;").toGrant(30, 1), 0);
    }

    private static void promise19() {
        BentShares x = Checks.linked("class grant 50 10 20;class grant 0 3 7;class;class;class in 3 grant 100 30 100;");
        CHECK.is("19: one", x.bound(0, 1), 66);
        CHECK.is("19: to the bend", x.bound(0, 5), 74);
        CHECK.is("19: behind it", x.bound(0, 6), 79);
        CHECK.is("19: the most", x.bound(0, 999), 5044);
        CHECK.is("19: a flat piece", x.bound(1, 1), 82);
        CHECK.is("19: all of the link", x.bound(4, 64), 128);
        CHECK.noSuch("19: no grant", () -> x.bound(2, 1));
        CHECK.noSuch("19: ahead of bytes", () -> x.bound(2, 0));
        CHECK.noSuch("19: no class", () -> x.bound(5, 1));
        CHECK.noSuch("19: no class below", () -> x.bound(-1, 1000));
        CHECK.illegal("19: no bytes", () -> x.bound(0, 0));
        CHECK.illegal("19: too many bytes", () -> x.bound(0, 1000));
        x.come(0, 64);
        x.units(20);
        CHECK.is("19: always from (0, 0)", x.bound(0, 6), 79);
    }

    private static void promise20() {
        BentShares x = Checks.linked("class upper 1 0 1;class;class in 1 grant 100 0 100;flow 0 10 0 5;flow 2 50 1 3;");
        CHECK.is("20: now", x.then(0, 0, 0), 0);
        CHECK.is("20: the first unit", x.then(0, 1, 0), 5);
        CHECK.is("20: upper holds the next", x.then(0, 400, 0), 5);
        CHECK.is("20: packets", x.then(0, 200, 1), 19);
        CHECK.is("20: full", x.then(0, 201, 1), 20);
        CHECK.is("20: none lost yet", x.then(0, 210, 4), 0);
        CHECK.is("20: one lost", x.then(0, 211, 4), 1);
        CHECK.is("20: all lost", x.then(0, 400, 4), 19);
        CHECK.is("20: virtual, woken at the peak of another one", x.then(0, 400, 2), 80);
        CHECK.is("20: active", x.then(0, 400, 5), 1);
        CHECK.is("20: not active", x.then(2, 100, 5), 0);
        CHECK.is("20: granted", x.then(2, 100, 3), 6);
        CHECK.is("20: sent of an inner one", x.then(1, 100, 0), 6);
        CHECK.is("20: packets of no leaf", x.then(1, 6, 1), 0);
        CHECK.is("20: granted of no leaf", x.then(1, 100, 3), 0);
        CHECK.is("20: nothing changes", x.count(2) + x.count(5) + x.count(12), 0);
        CHECK.noSuch("20: no class", () -> x.then(3, 0, 0));
        CHECK.noSuch("20: no class, ahead of units", () -> x.then(-1, 401, 0));
        CHECK.noSuch("20: what, ahead of units", () -> x.then(0, 401, 6));
        CHECK.noSuch("20: what below", () -> x.then(0, 0, -1));
        CHECK.illegal("20: units", () -> x.then(0, 401, 0));
        CHECK.illegal("20: units below", () -> x.then(0, -1, 0));
        for (int i = 0; i < 20; i++) {
            x.units(100);
        }
        CHECK.is("20: also above 2000", x.then(2, 400, 0) - x.of(2, 3), 24);
    }

    private static void promise21() {
        BentShares x = Checks.linked("class;class grant 100 0 100;flow 0 200 199 1;flow 1 200 100 2;");
        int[][] due = {{1, 100, 1}, {0, 199, 0}, {1, 300, 1}, {0, 399, 0}, {NONE, NONE, NONE}};
        for (int i = 0; i < 5; i++) {
            for (int what = 0; what < 3; what++) {
                CHECK.is("21: next(" + (i + 1) + ", " + what + ")", x.next(i + 1, what), due[i][what]);
            }
        }
        CHECK.is("21: the twentieth", Checks.linked("class;flow 0 1 0 1;").next(20, 1), 19);
        CHECK.illegal("21: 0", () -> x.next(0, 0));
        CHECK.illegal("21: 21", () -> x.next(21, 0));
        CHECK.noSuch("21: what", () -> x.next(1, 3));
        CHECK.noSuch("21: what, ahead of i", () -> x.next(21, -1));
        CHECK.is("21: the time stays", x.count(2), 0);
        x.units(50);
        CHECK.is("21: the time, not the units", x.next(1, 1), 100);
        x.stop(1);
        CHECK.is("21: a stopped one tells none", x.next(1, 0), 0);
    }

    private static void promise22() {
        BentShares x = Checks.linked("class;class;class in 1;");
        x.come(0, 10);
        CHECK.is("22: in the next one", x.waits(0), 0);
        x.come(0, 5);
        CHECK.is("22: behind the first", x.waits(0), 10);
        x.come(2, 1);
        CHECK.is("22: behind another one's", x.waits(0), 11);
        x.units(1);
        CHECK.is("22: from now on", x.waits(0), 10);
        CHECK.noSuch("22: no leaf", () -> x.waits(1));
        x.empty(2);
        CHECK.noSuch("22: empty", () -> x.waits(2));
        CHECK.noSuch("22: no class", () -> x.waits(3));
        CHECK.noSuch("22: no class below", () -> x.waits(-1));

        BentShares last = Checks.linked("class upper 0 29 10;class upper 0 30 10;flow 0 1 1 1;");
        last.stop(0);
        last.come(0, 37);
        last.come(0, 1);
        CHECK.is("22: 399 are less than 400", last.waits(0), 399);
        last.stop(0);
        CHECK.is("22: who comes behind it doesn't count", last.waits(0), 399);
        last.empty(0);
        last.come(1, 37);
        last.come(1, 1);
        CHECK.is("22: 400 are none", last.waits(1), NONE);
    }

    private static void promise23() {
        BentShares x = Checks.linked("class;flow 0 10 0 5;flow 0 10 0 7;class;class in 1;");
        CHECK.is("23: the second is not chosen yet", x.longest(0, 5), 0);
        CHECK.is("23: now it is", x.longest(0, 6), 5);
        CHECK.is("23: they pile up", x.longest(0, 200), 37);
        CHECK.is("23: the time stays", x.count(2), 0);
        CHECK.is("23: none come", x.longest(2, 200), NONE);
        CHECK.noSuch("23: no leaf", () -> x.longest(1, 1));
        CHECK.noSuch("23: no class, ahead of units", () -> x.longest(3, 0));
        CHECK.noSuch("23: no class below", () -> x.longest(-1, 1));
        CHECK.illegal("23: units", () -> x.longest(0, 0));
        CHECK.illegal("23: too many units", () -> x.longest(0, 201));

        BentShares y = Checks.linked("class;flow 0 200 0 1;");
        CHECK.is("23: one in the last unit", y.longest(0, 1), 0);
        y.come(0, 30);
        CHECK.is("23: who was there doesn't count", y.longest(0, 30), NONE);
        CHECK.is("23: who comes behind does", y.longest(0, 31), 30);

        BentShares lost = Checks.linked("class upper 100 0 100;flow 0 1 0 64;");
        CHECK.is("23: lost ones don't count", lost.longest(0, 200), 189);
    }

    private static BentShares two(String text, int first, int second) {
        BentShares x = Checks.linked(text);
        for (int i = 0; i < first; i++) {
            x.come(0, 10);
        }
        for (int i = 0; i < second; i++) {
            x.come(1, 10);
        }
        return x;
    }

    private static void promise24() {
        BentShares x = two("class;class;", 5, 5);
        CHECK.is("24: as it is", x.toShare(0, 30, 50), 10);
        CHECK.is("24: more", x.toShare(0, 40, 50), 30);
        CHECK.is("24: all is not to be had", x.toShare(0, 50, 50), NONE);
        CHECK.is("24: one byte, for one packet", x.toShare(0, 1, 1), 1);
        CHECK.is("24: not in time", x.toShare(1, 1, 10), NONE);
        CHECK.is("24: in time", x.toShare(1, 1, 11), 1);
        CHECK.is("24: nothing changes", x.curve(0, 1, 0) + x.count(12), 20);
        x.units(10);
        CHECK.is("24: bytes from now on", x.toShare(1, 30, 50), 7);
        CHECK.noSuch("24: no class, ahead of bytes", () -> x.toShare(2, 0, 1));
        CHECK.noSuch("24: no class below", () -> x.toShare(-1, 1, 1));
        CHECK.illegal("24: bytes", () -> x.toShare(0, 0, 1));
        CHECK.illegal("24: too many bytes", () -> x.toShare(0, 1000, 1));
        CHECK.illegal("24: units", () -> x.toShare(0, 1, 0));
        CHECK.illegal("24: too many units", () -> x.toShare(0, 1, 201));
        CHECK.is("24: the edges", x.toShare(0, 999, 200), NONE);

        // By 100 its virtual time is 1 a byte, by 99 it is one ahead.
        BentShares most = Checks.linked("class;class;");
        for (int i = 0; i < 12; i++) {
            most.come(0, 1);
            most.come(1, 1);
        }
        CHECK.is("24: the most", most.toShare(0, 11, 12), 100);
        CHECK.is("24: more than the most", most.toShare(0, 12, 12), NONE);

        // Changed is changed: what was laid with another slope is gone, even if the numbers stay.
        BentShares bent = two("class share 0 30 10;class;", 2, 2);
        bent.units(1);
        CHECK.is("24: the bend is gone", bent.toShare(0, 10, 30), 1);
    }

    private static void promise25() {
        BentShares x = two("class;class;class;class in 2;", 3, 2);
        CHECK.is("25: one in between", x.toCap(0, 1, 20), 49);
        CHECK.is("25: longer won't do", x.toCap(0, 1, 29), 49);
        CHECK.is("25: none is needed", x.toCap(0, 1, 30), 100);
        CHECK.is("25: the most", x.toCap(0, 1, 399), 100);
        CHECK.is("25: not to be had", x.toCap(0, 1, 19), NONE);
        CHECK.is("25: a class with none active", x.toCap(2, 1, 30), 100);
        CHECK.is("25: its own", x.toCap(1, 1, 30), 100);
        CHECK.is("25: none at once", x.toCap(1, 1, 0), NONE);
        CHECK.noSuch("25: nothing changes", () -> x.curve(0, 2, 0));
        CHECK.noSuch("25: no class", () -> x.toCap(4, 1, 1));
        CHECK.noSuch("25: no class below", () -> x.toCap(-1, 1, 400));
        CHECK.noSuch("25: no leaf", () -> x.toCap(0, 2, 1));
        CHECK.noSuch("25: empty, ahead of units", () -> x.toCap(0, 3, -1));
        CHECK.noSuch("25: no such leaf", () -> x.toCap(0, 4, 1));
        CHECK.illegal("25: units", () -> x.toCap(0, 1, -1));
        CHECK.illegal("25: too many units", () -> x.toCap(0, 1, 400));
        x.change(0, 2, 1, 0, 1);
        CHECK.is("25: in place of the one it has", x.toCap(0, 1, 30), 100);

        // Capped by 1 the first one sends in unit 0 alone, by 2 also in 53, by 3 in 37 and 70.
        BentShares tight = Checks.linked("class share 100 0 100;class;flow 0 1 0 1;");
        for (int i = 0; i < 20; i++) {
            tight.come(1, 4);
        }
        CHECK.is("25: the least cap", tight.toCap(0, 1, 77), 1);
        CHECK.is("25: the next one", tight.toCap(0, 1, 78), 2);
        CHECK.is("25: not even by the least", tight.toCap(0, 1, 76), NONE);
    }

    private static void promise26() {
        BentShares x = two("class;class;class;class in 2;", 3, 2);
        CHECK.is("26: of the other", x.blocked(1, 0), 20);
        CHECK.is("26: by the other", x.blocked(0, 1), 20);
        CHECK.is("26: by itself", x.blocked(0, 0), 20);
        CHECK.is("26: by itself, too", x.blocked(1, 1), 10);
        CHECK.is("26: by one without packets", x.blocked(0, 3), 0);
        CHECK.noSuch("26: by no leaf", () -> x.blocked(0, 2));
        CHECK.noSuch("26: no leaf", () -> x.blocked(2, 0));
        CHECK.noSuch("26: empty", () -> x.blocked(3, 0));
        CHECK.noSuch("26: no class", () -> x.blocked(4, 0));
        CHECK.noSuch("26: by no class", () -> x.blocked(0, 4));
        CHECK.noSuch("26: below", () -> x.blocked(-1, -1));

        BentShares never = Checks.linked("class upper 1 0 1;class;flow 1 10 0 5;");
        never.come(0, 5);
        never.come(0, 5);
        CHECK.is("26: within 400", never.blocked(0, 1), 200);
        CHECK.is("26: its own within 400", never.blocked(0, 0), 5);
    }

    private static void promise27() {
        BentShares x = two("class;class;", 2, 2);
        CHECK.is("27: now", x.spread(NONE, 0), 0);
        CHECK.is("27: behind one", x.spread(NONE, 1), 100);
        CHECK.is("27: the most", x.spread(NONE, 400), 100);
        x.units(1);
        CHECK.is("27: it is now", x.spread(NONE, 0), 100);
        x.units(10);
        CHECK.is("27: no more", x.spread(NONE, 400), 0);
        CHECK.is("27: of a leaf", x.spread(0, 400), 0);
        CHECK.is("27: the time stays", x.count(2), 11);
        CHECK.noSuch("27: no class, ahead of units", () -> x.spread(2, 401));
        CHECK.noSuch("27: no class below", () -> x.spread(-2, 0));
        CHECK.illegal("27: units", () -> x.spread(NONE, 401));
        CHECK.illegal("27: units below", () -> x.spread(0, -1));
        BentShares in = Checks.linked("class;class in 0;class in 0 share 1 0 1;class;");
        in.come(3, 64);
        in.come(2, 2);
        in.come(1, 1);
        in.come(2, 1);
        in.come(1, 1);
        CHECK.is("27: of those right in it", in.spread(0, 70), 190);
        CHECK.is("27: just then", in.spread(0, 66), 190);
        CHECK.is("27: till then", in.spread(0, 65), 10);
    }
}
