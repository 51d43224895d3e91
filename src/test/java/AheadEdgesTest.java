/** Each sentence of promises 17 to 27, and of the terms that they use, that names a boundary case. */
public final class AheadEdgesTest {
    private static final Checks CHECK = new Checks();
    private static final int NONE = BentShares.NONE;
    private static final int[] FAR_OUT = {-1, -2, Integer.MIN_VALUE, Integer.MAX_VALUE};

    // 37 bytes go at once, the rest 399 units behind the time when the first came: just less than 400.
    private static final String HELD_399 = "upper 0 29 10";
    private static final String HELD_400 = "upper 0 30 10";

    public static void main(String[] args) {
        CHECK.runAll(AheadEdgesTest.class);
    }

    // ---- promise 17

    private static void together(String grants, int so, int firstOver, int over) {
        BentShares x = Checks.linked(grants);
        CHECK.is(grants, x.together(0), so);
        CHECK.is("first over of " + grants, x.together(1), firstOver);
        CHECK.is("over of " + grants, x.together(2), over);
    }

    /** "come to t at most": so much is together, a hundredth more isn't */
    private static void promise17_tAtMost() {
        together("class grant 100 0 100;", 1, NONE, 0);
        together("class grant 99 0 99;class grant 1 0 1;", 1, NONE, 0);
        together("class grant 99 0 99;class grant 2 0 2;", 0, 1, 1);
        together("class grant 100 30 1;class grant 0 30 99;", 1, NONE, 0);
        together("class grant 100 30 1;class grant 1 30 99;", 0, 1, 1);
        together("class grant 100 30 1;class grant 0 29 99;", 0, 30, 99);
        together("class grant 100 30 2;class grant 0 30 99;", 0, 31, 1);
    }

    /** "for each whole t from 0 on": the first is far behind the last bend */
    private static void promise17_farOn() {
        together("class grant 0 30 100;class grant 0 30 1;", 0, 3031, 1);
        together("class grant 0 30 100;class grant 0 30 2;", 0, 1531, 2);
        together("class grant 0 30 51;class grant 0 0 50;", 0, 1531, 1);
        together("class grant 0 30 100;".repeat(12), 0, 33, 300);
        together("class grant 100 0 100;".repeat(12), 0, 1, 1100);
        together("class grant 0 30 8;".repeat(12), 1, NONE, 0);
    }

    /** "FIRST OVER (1; NONE), OVER there (2; 0)": where they go together, and without any */
    private static void promise17_none() {
        together("", 1, NONE, 0);
        together("class;class upper 100 0 100 share 100 0 100;class share 100 0 100;", 1, NONE, 0);
        together("class grant 0 0 1;", 1, NONE, 0);
    }

    /** "all of them": as they are now, of all leaves */
    private static void promise17_asTheyAreNow() {
        BentShares x = Checks.linked("class;class in 0 grant 60 0 60;class;class in 2 grant 40 0 40;");
        CHECK.is("together", x.together(0), 1);
        x.change(1, 0, 61, 0, 60);
        CHECK.is("a first piece of nothing", x.together(0), 1);
        x.change(1, 0, 61, 1, 60);
        CHECK.is("a first piece of 1", x.together(1) * 1000 + x.together(2), 1001);
        x.lift(3, 0);
        CHECK.is("one is lifted", x.together(0), 1);
        x.undo();
        CHECK.is("undone", x.together(0), 0);
        Checks.comes(x, 1, 9);
        x.units(50);
        CHECK.is("wherever they are laid", x.together(1) * 1000 + x.together(2), 1001);
    }

    /** "OVER there (2; 0)": 0 again, when it was more */
    private static void promise17_overAgain() {
        BentShares x = Checks.linked("class grant 100 0 100;class grant 30 0 30;");
        CHECK.is("over", x.together(2), 30);
        x.lift(1, 0);
        CHECK.is("not any more", x.together(2), 0);
        CHECK.is("nor first over", x.together(1), NONE);
        x.toGrant(5, 50);
        CHECK.is("nor by one that might be", x.together(2), 0);
    }

    /** "NoSuchElementException: another what." */
    private static void promise17_anotherWhat() {
        BentShares x = new BentShares();
        CHECK.noSuch("3", () -> x.together(3));
        for (int what : FAR_OUT) {
            CHECK.noSuch("what " + what, () -> x.together(what));
        }
    }

    // ---- promise 18

    /** "IllegalArgumentException: D, M2." */
    private static void promise18_wrongNumbers() {
        BentShares x = Checks.linked("class grant 100 0 100;");
        CHECK.is("the least", x.toGrant(0, 1), NONE);
        CHECK.is("the greatest", x.toGrant(30, 100), NONE);
        CHECK.illegal("D 31", () -> x.toGrant(31, 1));
        CHECK.illegal("M2 0", () -> x.toGrant(0, 0));
        CHECK.illegal("M2 101", () -> x.toGrant(0, 101));
        for (int far : FAR_OUT) {
            CHECK.illegal("D " + far, () -> x.toGrant(far, 1));
            CHECK.illegal("M2 " + far, () -> x.toGrant(0, far));
        }
    }

    /** "the greatest M1 (0 to 100) with which one GRANT more goes together with these; none" */
    private static void promise18_theGreatest() {
        CHECK.is("100 with none", new BentShares().toGrant(30, 100), 100);
        CHECK.is("99", Checks.linked("class grant 1 30 1;").toGrant(30, 1), 99);
        CHECK.is("1", Checks.linked("class grant 99 30 1;").toGrant(30, 1), 1);
        CHECK.is("0", Checks.linked("class grant 100 30 1;").toGrant(30, 1), 0);
        CHECK.is("none: these go not together", Checks.linked("class grant 100 0 100;class grant 0 0 1;").toGrant(30, 1), NONE);
        CHECK.is("none: by M2 alone", Checks.linked("class grant 1 0 1;").toGrant(30, 100), NONE);
        CHECK.is("just by M2", Checks.linked("class grant 1 0 1;").toGrant(30, 99), 99);
        CHECK.is("without a first piece M1 is nothing", Checks.linked("class grant 90 0 90;").toGrant(0, 10), 100);
        CHECK.is("a first piece of 1", Checks.linked("class grant 90 0 90;").toGrant(1, 10), 10);
        CHECK.is("less may be had later", Checks.linked("class grant 90 1 100;").toGrant(1, 1), NONE);
        CHECK.is("of 12 others", Checks.linked("class grant 8 0 8;".repeat(12)).toGrant(30, 4), 4);
    }

    // ---- promise 19

    /** "for n BYTES (1 to 999)" */
    private static void promise19_bytes() {
        BentShares x = Checks.linked("class grant 1 0 1;class grant 100 30 100;class grant 100 30 1;class grant 0 30 1;");
        CHECK.is("1 by the least", x.bound(0, 1), 164);
        CHECK.is("999 by the least", x.bound(0, 999), 99964);
        CHECK.is("1 by the most", x.bound(1, 1), 65);
        CHECK.is("999 by the most", x.bound(1, 999), 1063);
        CHECK.is("at the bend", x.bound(2, 30), 94);
        CHECK.is("behind it", x.bound(2, 31), 194);
        CHECK.is("flat", x.bound(3, 1), 194);
        CHECK.is("a hundredth less than a byte a unit", Checks.linked("class grant 99 30 1;").bound(0, 1), 66);
        CHECK.illegal("0", () -> x.bound(0, 0));
        CHECK.illegal("1000", () -> x.bound(0, 1000));
        for (int bytes : FAR_OUT) {
            CHECK.illegal("bytes " + bytes, () -> x.bound(0, bytes));
        }
    }

    /** "NoSuchElementException: also it has no GRANT. IllegalArgumentException (behind that)" */
    private static void promise19_noGrant() {
        BentShares x = Checks.linked("class grant 1 1 1;class;class in 1;");
        x.lift(0, 0);
        for (int cls = 0; cls < 4; cls++) {
            int asked = cls;
            CHECK.noSuch("class " + cls, () -> x.bound(asked, 1));
            CHECK.noSuch("ahead of bytes", () -> x.bound(asked, 0));
        }
        for (int cls : FAR_OUT) {
            CHECK.noSuch("class " + cls, () -> x.bound(cls, 1000));
        }
    }

    /** "GRANT LAID at (0, 0)": whatever is laid now */
    private static void promise19_alwaysFromNothing() {
        BentShares x = Checks.linked("class grant 50 0 50;");
        x.units(77);
        Checks.comes(x, 0, 9, 9);
        x.units(1);
        CHECK.is("nine bytes", x.bound(0, 9), 18 + 64);
    }

    // ---- promise 20

    /** "behind so many UNITS (0 to 400)" */
    private static void promise20_units() {
        BentShares x = Checks.linked("class " + HELD_399 + ";class " + HELD_400 + ";");
        Checks.comes(x, 0, 37, 1);
        CHECK.is("now", x.then(0, 0, 0), 0);
        CHECK.is("behind one", x.then(0, 1, 0), 37);
        CHECK.is("behind 399", x.then(0, 399, 0), 37);
        CHECK.is("behind 400", x.then(0, 400, 0), 38);
        x.empty(0);
        Checks.comes(x, 1, 37, 1);
        CHECK.is("a unit later", x.then(1, 400, 0), 37);
        CHECK.illegal("401", () -> x.then(0, 401, 0));
        for (int units : FAR_OUT) {
            CHECK.illegal("units " + units, () -> x.then(0, units, 0));
        }
    }

    /** Behind 0 units all is as it is now. */
    private static void promise20_now() {
        BentShares x = Checks.linked("class;class in 0 grant 50 0 50;class in 0;flow 1 3 0 2;flow 2 1 0 9;");
        Checks.passes(x, 123);
        int[] of = {3, 8, 5, 4, 7, 2};
        for (int cls = 0; cls < 3; cls++) {
            for (int what = 0; what < 6; what++) {
                CHECK.is("then(" + cls + ", 0, " + what + ")", x.then(cls, 0, what), x.of(cls, of[what]));
            }
        }
        CHECK.is("some are lost", x.then(2, 0, 4) > 0, true);
        BentShares one = Checks.linked("class;");
        one.come(0, 3);
        CHECK.is("active now", one.then(0, 0, 5), 1);
        CHECK.is("behind one it isn't", one.then(0, 1, 5), 0);
    }

    /** "PACKETS in the QUEUE (0 of no LEAF) .. LOST ever of a CLASS (0 of no LEAF)" */
    private static void promise20_ofNoLeaf() {
        BentShares x = Checks.linked("class;class in 0 grant 100 0 100;flow 1 1 0 2;");
        int[] zero = {1, 3, 4};
        for (int what : zero) {
            CHECK.is("of the leaf", x.then(1, 400, what) > 0, true);
            CHECK.is("of no leaf", x.then(0, 400, what), 0);
        }
        CHECK.is("sent", x.then(0, 400, 0), 400);
        CHECK.is("virtual", x.then(0, 400, 2), 4000);
        CHECK.is("active", x.then(0, 400, 5), 1);
    }

    /** "NoSuchElementException: also another what. IllegalArgumentException (behind that)" */
    private static void promise20_noSuch() {
        BentShares x = Checks.linked("class;");
        CHECK.noSuch("class 1", () -> x.then(1, 0, 0));
        CHECK.noSuch("what 6", () -> x.then(0, 0, 6));
        CHECK.noSuch("what 6, ahead of units", () -> x.then(0, 401, 6));
        for (int far : FAR_OUT) {
            CHECK.noSuch("class " + far, () -> x.then(far, 401, 0));
            CHECK.noSuch("what " + far, () -> x.then(0, -1, far));
        }
    }

    /** "(If only UNITS go by, from now on:)": also where the time would be above 2000 */
    private static void promise20_above2000() {
        BentShares x = Checks.linked("class;flow 0 100 99 5;");
        Checks.passes(x, 2000);
        CHECK.is("four more", x.then(0, 400, 0) - x.of(0, 3), 20);
        CHECK.is("the fourth", x.next(4, 1), 2399);
    }

    // ---- promise 21

    /** "the i-th PACKET (1 to 20)" */
    private static void promise21_i() {
        BentShares x = Checks.linked("class;flow 0 20 19 1;");
        for (int i = 1; i <= 20; i++) {
            CHECK.is("the i-th", x.next(i, 1), 20 * i - 1);
        }
        CHECK.illegal("0", () -> x.next(0, 0));
        CHECK.illegal("21", () -> x.next(21, 0));
        for (int i : FAR_OUT) {
            CHECK.illegal("i " + i, () -> x.next(i, 0));
        }
    }

    /** "that is CHOSEN within 400 UNITS .. none" */
    private static void promise21_within400() {
        for (int start = 0; start <= 100; start += 50) {
            BentShares x = Checks.linked("class " + HELD_399 + ";class " + HELD_400 + ";");
            Checks.passes(x, start);
            Checks.comes(x, 0, 37, 1);
            CHECK.is("in the last one", x.next(2, 1), start + 399);
            CHECK.is("its leaf", x.next(2, 0), 0);
            x.empty(0);
            Checks.comes(x, 1, 37, 1);
            CHECK.is("the first", x.next(1, 1), start);
            for (int what = 0; what < 3; what++) {
                CHECK.is("a unit later", x.next(2, what), NONE);
            }
        }
    }

    /** The same where nothing waits till then: a flow's packet. */
    private static void promise21_aFlowsWithin400() {
        BentShares x = Checks.linked("class;flow 0 200 199 1;");
        CHECK.is("in the last one", x.next(2, 1), 399);
        CHECK.is("no third", x.next(3, 1), NONE);
        Checks.passes(x, 50);
        CHECK.is("no third in 150 units", x.next(3, 1), NONE);
        Checks.passes(x, 149);
        CHECK.is("the second in 200", x.next(2, 1), 399);
        CHECK.is("the third is a unit too late", x.next(3, 1), NONE);
        x.units(1);
        CHECK.is("the second is in the last one", x.next(2, 1), 599);
    }

    /** The same where the link is busy till then. */
    private static void promise21_busyTill400() {
        for (int more = 0; more < 2; more++) {
            BentShares x = busyTill(399 + more);
            CHECK.is("the twentieth", x.next(20, 1), more == 0 ? 399 : NONE);
            CHECK.is("waits", x.waits(0), more == 0 ? 399 : NONE);
            CHECK.is("blocked by itself", x.blocked(0, 0), 399 + more);
            CHECK.is("sent", x.then(0, 400, 0), 400);
        }
    }

    /** Nineteen packets that take so many units together, and one of 1 byte. */
    private static BentShares busyTill(int units) {
        BentShares x = Checks.linked("class;");
        for (int i = 0; i < 18; i++) {
            x.come(0, 20);
        }
        Checks.comes(x, 0, units - 360, 1);
        return x;
    }

    /** "NoSuchElementException: another what. IllegalArgumentException (behind that)" */
    private static void promise21_anotherWhat() {
        BentShares x = Checks.linked("class;");
        CHECK.noSuch("3", () -> x.next(1, 3));
        CHECK.noSuch("3, ahead of i", () -> x.next(0, 3));
        for (int what : FAR_OUT) {
            CHECK.noSuch("what " + what, () -> x.next(21, what));
        }
        CHECK.is("none is chosen", x.next(1, 2), NONE);
    }

    // ---- promise 22

    /** "(0: in the next one; less than 400); none" */
    private static void promise22_fromTheNextTo399() {
        BentShares x = Checks.linked("class " + HELD_399 + ";class " + HELD_400 + ";class;");
        x.come(2, 1);
        CHECK.is("in the next one", x.waits(2), 0);
        x.come(2, 1);
        CHECK.is("in the one behind it", x.waits(2), 1);
        x.empty(2);
        Checks.comes(x, 0, 37, 1);
        CHECK.is("just less than 400", x.waits(0), 399);
        x.units(1);
        CHECK.is("from now on", x.waits(0), 398);
        x.undo();
        x.empty(0);
        Checks.comes(x, 1, 37, 1);
        CHECK.is("400", x.waits(1), NONE);
        x.units(1);
        CHECK.is("a unit later", x.waits(1), 399);
    }

    /** "the PACKET that is last in its QUEUE now": not one that comes behind it */
    private static void promise22_lastNow() {
        BentShares x = Checks.linked("class;flow 0 1 0 1;");
        Checks.comes(x, 0, 5, 5);
        CHECK.is("two wait", x.waits(0), 5);
        for (int i = 0; i < 30; i++) {
            x.come(0, 2);
        }
        CHECK.is("twenty wait, the others are lost", x.waits(0), 10 + 17 * 2);
    }

    /** "NoSuchElementException: also its QUEUE is empty, no LEAF." */
    private static void promise22_noSuch() {
        BentShares x = Checks.linked("class;class in 0;class;flow 2 1 0 1;");
        x.come(1, 1);
        CHECK.noSuch("no leaf, active", () -> x.waits(0));
        CHECK.noSuch("empty, though one will come", () -> x.waits(2));
        CHECK.noSuch("class 3", () -> x.waits(3));
        for (int cls : FAR_OUT) {
            CHECK.noSuch("class " + cls, () -> x.waits(cls));
        }
        x.units(1);
        CHECK.noSuch("the last one was chosen", () -> x.waits(1));
    }

    // ---- promise 23

    /** "within so many UNITS (1 to 200; a FLOW's in the last one, too)" */
    private static void promise23_inTheLastOne() {
        BentShares x = Checks.linked("class;flow 0 200 199 1;class;flow 1 200 0 2;");
        CHECK.is("the first unit alone", x.longest(1, 1), 0);
        CHECK.is("in the last of 200", x.longest(0, 200), 0);
        CHECK.is("not yet", x.longest(0, 199), NONE);
        CHECK.illegal("0", () -> x.longest(0, 0));
        CHECK.illegal("201", () -> x.longest(0, 201));
        for (int units : FAR_OUT) {
            CHECK.illegal("units " + units, () -> x.longest(0, units));
        }
    }

    /** "and are CHOSEN within these, the most UNITS between" */
    private static void promise23_chosenWithinThese() {
        BentShares x = Checks.linked("class;flow 0 200 0 9;flow 0 200 2 1;flow 0 200 3 1;");
        CHECK.is("the first at once", x.longest(0, 9), 0);
        CHECK.is("the second behind nine", x.longest(0, 10), 7);
        CHECK.is("the third behind ten", x.longest(0, 11), 7);
        BentShares y = Checks.linked("class;class;flow 0 200 3 1;");
        y.come(1, 10);
        CHECK.is("it came, and wasn't chosen", y.longest(0, 10), NONE);
        CHECK.is("it was", y.longest(0, 11), 7);
        CHECK.is("to the other none come", y.longest(1, 200), NONE);
    }

    /** "PACKETS that come to a LEAF within": not those that wait already, nor those that are lost */
    private static void promise23_whoComesWithin() {
        BentShares x = Checks.linked("class;flow 0 200 30 1;");
        Checks.comes(x, 0, 15, 15, 1, 1);
        CHECK.is("these wait already", x.longest(0, 30), NONE);
        CHECK.is("these, too", x.longest(0, 32), NONE);
        CHECK.is("the flow's goes behind them", x.longest(0, 33), 2);
        BentShares full = Checks.linked("class;flow 0 1 0 64;");
        for (int i = 0; i < 20; i++) {
            full.come(0, 1);
        }
        CHECK.is("the first one is lost: it comes to a full queue", full.longest(0, 21), 19);
        CHECK.is("twenty that waited, one that came", full.longest(0, 20), NONE);
    }

    /** "the most UNITS between": the first, the last of 200, the same as ever behind a later one */
    private static void promise23_theMost() {
        BentShares first = Checks.linked("class;flow 0 200 3 1;flow 0 200 60 1;");
        first.come(0, 30);
        CHECK.is("the first", first.longest(0, 200), 27);
        BentShares last = Checks.linked("class;flow 0 1 0 1;flow 0 200 195 1;");
        CHECK.is("none waits", last.longest(0, 195), 0);
        CHECK.is("two in one unit", last.longest(0, 196), 0);
        CHECK.is("the last ones wait", last.longest(0, 197), 1);
        BentShares busy = Checks.linked("class;flow 0 200 10 1;");
        Checks.comes(busy, 0, 50, 50);
        CHECK.is("chosen in the last one", busy.longest(0, 101), 90);
        CHECK.is("not yet", busy.longest(0, 100), NONE);
    }

    /** "NoSuchElementException: also no LEAF. IllegalArgumentException (behind that)" */
    private static void promise23_noLeaf() {
        BentShares x = Checks.linked("class;class in 0;");
        CHECK.noSuch("no leaf", () -> x.longest(0, 1));
        CHECK.noSuch("no leaf, ahead of units", () -> x.longest(0, 0));
        CHECK.noSuch("class 2", () -> x.longest(2, 201));
        for (int cls : FAR_OUT) {
            CHECK.noSuch("class " + cls, () -> x.longest(cls, 0));
        }
        CHECK.is("without flows none come", x.longest(1, 200), NONE);
    }

    // ---- promise 24

    /** "so many BYTES (1 to 999) .. so many UNITS (1 to 200)" */
    private static void promise24_bytesAndUnits() {
        BentShares x = Checks.linked("class;class;");
        Checks.comes(x, 0, 64, 64, 64, 64);
        CHECK.is("a byte in a unit", x.toShare(0, 1, 1), 1);
        CHECK.is("all of the packet is sent when it is chosen", x.toShare(0, 64, 1), 1);
        CHECK.is("a byte more", x.toShare(0, 65, 1), NONE);
        CHECK.is("in 200", x.toShare(0, 256, 200), 1);
        CHECK.is("999", x.toShare(0, 999, 200), NONE);
        CHECK.is("the other has none", x.toShare(1, 1, 200), NONE);
        CHECK.illegal("0 bytes", () -> x.toShare(0, 0, 1));
        CHECK.illegal("1000 bytes", () -> x.toShare(0, 1000, 1));
        CHECK.illegal("0 units", () -> x.toShare(0, 1, 0));
        CHECK.illegal("201 units", () -> x.toShare(0, 1, 201));
        for (int far : FAR_OUT) {
            CHECK.illegal("bytes " + far, () -> x.toShare(0, far, 1));
            CHECK.illegal("units " + far, () -> x.toShare(0, 1, far));
            CHECK.noSuch("class " + far, () -> x.toShare(far, 0, 0));
        }
        CHECK.noSuch("class 2, ahead of both", () -> x.toShare(2, 1000, 201));
    }

    /** "behind so many UNITS": one chosen in the last of them counts */
    private static void promise24_theLastUnit() {
        BentShares x = Checks.linked("class;class;");
        x.come(0, 7);
        x.come(1, 3);
        CHECK.is("behind 7 it isn't", x.toShare(1, 1, 7), NONE);
        CHECK.is("behind 8 it is", x.toShare(1, 3, 8), 1);
        CHECK.is("no more", x.toShare(1, 4, 200), NONE);
    }

    /** "the least M (1 to 100)", "so many BYTES more" */
    private static void promise24_theLeast() {
        BentShares x = Checks.linked("class;class;");
        Checks.comes(x, 0, 10, 10, 10);
        Checks.comes(x, 1, 10, 10, 10);
        x.units(10);
        CHECK.is("what is sent doesn't count", x.toShare(0, 10, 11), 1);
        CHECK.is("two of the next three: 10 bytes by M are no more than 100", x.toShare(0, 20, 21), NONE);
        CHECK.is("two of the next four", x.toShare(0, 20, 31), 10);
        x.units(10);
        CHECK.is("two of the next three", x.toShare(0, 20, 21), 10);
        CHECK.is("a byte less is as much", x.toShare(0, 19, 21), 10);
        CHECK.is("one packet is had by any", x.toShare(0, 10, 21), 1);
    }

    /** "with SHARE CHANGED to (M 0 M) now (also where it is so)": what was laid is gone */
    private static void promise24_alsoWhereItIsSo() {
        BentShares x = Checks.linked("class share 7 0 7;class share 0 28 100;");
        Checks.comes(x, 0, 1, 1, 1);
        Checks.comes(x, 1, 1, 1);
        x.units(2);
        CHECK.is("of 0", x.of(0, 5), 15);
        CHECK.is("of 1", x.of(1, 5), 29);
        CHECK.is("as it is two bytes go", x.then(0, 2, 0), 3);
        CHECK.is("changed to the same, 15 and 15 is 30", x.toShare(0, 2, 2), 8);
        CHECK.is("it stays", x.curve(0, 1, 0), 7);
    }

    /** "the least M (1 to 100) .. none": 100 itself */
    private static void promise24_by100() {
        BentShares x = Checks.linked("class;class;");
        for (int i = 0; i < 12; i++) {
            x.come(0, 1);
            x.come(1, 1);
        }
        CHECK.is("eleven, if ten are no more than 10", x.toShare(0, 11, 12), 100);
        CHECK.is("ten, if nine are no more than 20", x.toShare(0, 10, 12), 45);
        CHECK.is("twelve by none", x.toShare(0, 12, 12), NONE);
        CHECK.is("one by the least", x.toShare(0, 1, 12), 1);
    }

    /** A class that is no leaf, one that isn't active: its share counts when it wakes. */
    private static void promise24_ofAnyClass() {
        BentShares x = Checks.linked("class;class in 0;class;flow 1 200 5 4;");
        CHECK.is("no leaf, not active yet", x.toShare(0, 4, 6), 1);
        CHECK.is("its flow comes too late", x.toShare(0, 4, 5), NONE);
        Checks.comes(x, 1, 5, 5);
        Checks.comes(x, 2, 5, 5);
        CHECK.is("no leaf: 500 by M is no more than 50", x.toShare(0, 10, 6), NONE);
        CHECK.is("with the second one", x.toShare(0, 10, 11), 10);
    }

    // ---- promise 25

    /** "at most so much (0 to 399)" */
    private static void promise25_soMuch() {
        BentShares x = Checks.linked("class;class " + HELD_399 + ";class " + HELD_400 + ";");
        Checks.comes(x, 1, 37, 1);
        CHECK.is("399", x.toCap(0, 1, 399), 100);
        CHECK.is("less", x.toCap(0, 1, 398), NONE);
        x.empty(1);
        Checks.comes(x, 2, 37, 1);
        CHECK.is("400 is none", x.toCap(0, 2, 399), NONE);
        x.empty(2);
        x.come(1, 1);
        CHECK.is("0", x.toCap(0, 1, 0), 100);
        CHECK.illegal("400", () -> x.toCap(0, 1, 400));
        for (int units : FAR_OUT) {
            CHECK.illegal("units " + units, () -> x.toCap(0, 1, units));
        }
    }

    /** "the greatest M (1 to 100) .. none" */
    private static void promise25_theGreatest() {
        BentShares x = Checks.linked("class share 100 0 100;class;");
        Checks.comes(x, 0, 1, 1, 1);
        x.come(1, 1);
        CHECK.is("of like ones 0 goes first: 100", x.toCap(0, 1, 1), 100);
        Checks.comes(x, 1, 1);
        CHECK.is("0 fits in unit 2, its third byte not in 3: 200 by 66", x.toCap(0, 1, 3), 66);
        CHECK.is("0 doesn't fit in unit 2: 100 by 49", x.toCap(0, 1, 2), 49);
        CHECK.is("no cap will do", x.toCap(0, 1, 1), NONE);
        CHECK.is("none is needed", x.toCap(0, 1, 4), 100);
    }

    /** "the greatest M (1 to 100) .. none": 1 itself */
    private static void promise25_by1() {
        BentShares x = Checks.linked("class share 100 0 100;class;flow 0 1 0 1;");
        for (int i = 0; i < 20; i++) {
            x.come(1, 4);
        }
        // By 1 the first sends in unit 0 alone, by 2 also in 53.
        CHECK.is("by 2 it is a unit later", x.toCap(0, 1, 78), 2);
        CHECK.is("by 1", x.toCap(0, 1, 77), 1);
        CHECK.is("not even by 1", x.toCap(0, 1, 76), NONE);
    }

    /** "UPPER of the CLASS CHANGED to (M 0 M) now (also where it is so)" */
    private static void promise25_alsoWhereItIsSo() {
        BentShares x = Checks.linked("class share 100 0 100 upper 10 0 10;class;");
        Checks.comes(x, 0, 10, 10);
        Checks.comes(x, 1, 10, 10);
        x.units(20);
        CHECK.is("as it is 1 goes now", x.waits(1), 0);
        CHECK.is("changed to the same, 0 fits now", x.toCap(0, 1, 0), NONE);
        CHECK.is("and 1 goes behind it", x.toCap(0, 1, 10), 100);
        CHECK.is("it stays", x.due(0, 2), 100);
    }

    /** "NoSuchElementException: also no LEAF, its QUEUE is empty. IllegalArgumentException (behind that)" */
    private static void promise25_noSuch() {
        BentShares x = Checks.linked("class;class in 0;class;");
        x.come(1, 1);
        CHECK.noSuch("no leaf", () -> x.toCap(1, 0, 1));
        CHECK.noSuch("empty", () -> x.toCap(1, 2, 1));
        CHECK.noSuch("empty, ahead of units", () -> x.toCap(1, 2, 400));
        CHECK.noSuch("leaf 3", () -> x.toCap(1, 3, 1));
        CHECK.noSuch("class 3", () -> x.toCap(3, 1, 1));
        CHECK.noSuch("class 3, ahead of units", () -> x.toCap(3, 1, -1));
        for (int far : FAR_OUT) {
            CHECK.noSuch("leaf " + far, () -> x.toCap(1, far, 1));
            CHECK.noSuch("class " + far, () -> x.toCap(far, 1, 1));
        }
        CHECK.is("a class that it is in", x.toCap(0, 1, 0), 100);
        CHECK.is("itself", x.toCap(1, 1, 0), 100);
        CHECK.is("one that is empty", x.toCap(2, 1, 0), 100);
    }

    // ---- promise 26

    /** "(within 400 UNITS)" */
    private static void promise26_within400() {
        String[] held = {HELD_399, HELD_400};
        for (int i = 0; i < 2; i++) {
            BentShares x = Checks.linked("class upper 1 0 1;class " + held[i] + ";");
            Checks.comes(x, 0, 10, 10);
            Checks.comes(x, 1, 37, 1);
            CHECK.is("it waits for ever", x.waits(0), NONE);
            CHECK.is("till the last of 400", x.blocked(0, 1), i == 0 ? 38 : 37);
        }
    }

    /** The same where the link is busy till then. */
    private static void promise26_busyTill400() {
        for (int more = 0; more < 2; more++) {
            BentShares x = Checks.linked("class upper 1 0 1;class;");
            Checks.comes(x, 0, 10, 10);
            for (int i = 0; i < 18; i++) {
                x.come(1, 20);
            }
            Checks.comes(x, 1, 29 + more, 7);
            CHECK.is("the last one goes at 399 or 400", x.blocked(0, 1), more == 0 ? 396 : 390);
        }
    }

    /** "ahead of the PACKET that is last in its QUEUE now" */
    private static void promise26_aheadOfTheLast() {
        BentShares x = Checks.linked("class;class;class;flow 1 200 3 7;");
        Checks.comes(x, 0, 2, 3);
        x.come(1, 4);
        CHECK.is("what waits", x.blocked(0, 1), 4);
        CHECK.is("its own but for the last", x.blocked(0, 0), 2);
        CHECK.is("one that has none", x.blocked(0, 2), 0);
        CHECK.is("the first goes ahead of what comes", x.blocked(1, 0), 2);
        CHECK.is("none of its own is ahead", x.blocked(1, 1), 0);
        x.come(0, 30);
        CHECK.is("what comes later goes ahead, too", x.blocked(0, 1), 11);
        BentShares idle = Checks.linked("class " + HELD_399 + ";class;flow 1 200 150 6;");
        Checks.comes(idle, 0, 37, 1);
        CHECK.is("the link is idle between", idle.blocked(0, 1), 12);
    }

    /** "NoSuchElementException: also no LEAVES, the first one's QUEUE is empty." */
    private static void promise26_noSuch() {
        BentShares x = Checks.linked("class;class in 0;class;");
        x.come(1, 1);
        CHECK.noSuch("no leaf", () -> x.blocked(0, 1));
        CHECK.noSuch("by no leaf", () -> x.blocked(1, 0));
        CHECK.noSuch("empty", () -> x.blocked(2, 1));
        CHECK.is("by an empty one", x.blocked(1, 2), 0);
        CHECK.noSuch("class 3", () -> x.blocked(3, 1));
        CHECK.noSuch("by class 3", () -> x.blocked(1, 3));
        for (int cls : FAR_OUT) {
            CHECK.noSuch("class " + cls, () -> x.blocked(cls, 1));
            CHECK.noSuch("by class " + cls, () -> x.blocked(1, cls));
        }
    }

    // ---- promise 27

    /** "(0 without any)": none active right in it, one, a leaf */
    private static void promise27_withoutAny() {
        BentShares x = Checks.linked("class;class in 0;class in 0;class;");
        for (int cls = NONE; cls < 4; cls++) {
            CHECK.is("none is active", x.spread(cls, 400), 0);
        }
        Checks.comes(x, 1, 5, 5);
        CHECK.is("one inside", x.spread(0, 400), 0);
        CHECK.is("one in the link", x.spread(NONE, 400), 0);
        CHECK.is("a leaf", x.spread(1, 400), 0);
    }

    /** "the most it is now and behind each UNIT up to so many (0 to 400)" */
    private static void promise27_upToSoMany() {
        BentShares x = Checks.linked("class share 100 0 100 upper 1 0 1;class " + HELD_399 + ";");
        Checks.comes(x, 0, 64, 64);
        Checks.comes(x, 1, 37, 1, 1);
        CHECK.is("now", x.spread(NONE, 0), 0);
        CHECK.is("behind one", x.spread(NONE, 1), 64);
        CHECK.is("behind 64", x.spread(NONE, 64), 64);
        CHECK.is("behind 65", x.spread(NONE, 65), 306);
        CHECK.is("behind 399", x.spread(NONE, 399), 306);
        CHECK.is("behind 400", x.spread(NONE, 400), 316);
        CHECK.illegal("401", () -> x.spread(NONE, 401));
        for (int units : FAR_OUT) {
            CHECK.illegal("units " + units, () -> x.spread(0, units));
        }
    }

    /** "the most it is now": though it is less later */
    private static void promise27_now() {
        BentShares x = Checks.linked("class;class;");
        Checks.comes(x, 0, 10, 1);
        Checks.comes(x, 1, 3, 1);
        x.units(1);
        CHECK.is("now", x.spread(NONE, 0), 100);
        CHECK.is("the most is now", x.spread(NONE, 400), 100);
        x.units(10);
        CHECK.is("less by the three bytes of 1", x.spread(NONE, 0), 70);
    }

    /** "of a CLASS or the LINK": those right in it, by NONE the link's */
    private static void promise27_noSuchClass() {
        BentShares x = Checks.linked("class;class;");
        CHECK.noSuch("class 2", () -> x.spread(2, 0));
        CHECK.noSuch("class 2, ahead of units", () -> x.spread(2, 401));
        int[] wrong = {-2, 12, Integer.MIN_VALUE, Integer.MAX_VALUE};
        for (int cls : wrong) {
            CHECK.noSuch("class " + cls, () -> x.spread(cls, -1));
        }
        CHECK.is("the link", x.spread(NONE, 0), 0);
    }

    // ---- all of them

    /** What only asks changes nothing, whatever it tries out. */
    private static void promise17to27_nothingChanges() {
        BentShares x = Checks.linked("class upper 50 9 60;class in 0 grant 9 9 9;class in 0;class;flow 1 9 0 5;flow 3 7 2 9;");
        Checks.comes(x, 2, 5, 6, 7);
        x.units(33);
        x.stop(1);
        x.image();
        String before = Checks.all(x);
        x.together(0);
        x.toGrant(5, 5);
        x.bound(1, 500);
        x.then(1, 400, 3);
        x.next(20, 0);
        x.waits(2);
        x.longest(1, 200);
        x.toShare(0, 999, 200);
        x.toCap(0, 2, 399);
        x.blocked(2, 3);
        x.spread(NONE, 400);
        CHECK.is("all is as it was", Checks.all(x), before);
        CHECK.is("nor is anything counted", Checks.status(x), "0 0 0");
    }
}
