/** Promises 1 to 4 and 34: a new object, the tape, the text, a class told again; its faults stand in TextEdgesTest. */
public final class TextTest {
    private static final Checks CHECK = new Checks();
    private static final int NONE = BentShares.NONE;

    public static void main(String[] args) {
        promise1();
        promise2();
        promise3Texts();
        promise3WhatStays();
        promise4();
        promise34();
        CHECK.end();
    }

    private static void promise1() {
        BentShares x = new BentShares();
        for (int what = 0; what < 18; what++) {
            CHECK.is("1: count(" + what + ")", x.count(what), what == 11 ? NONE : 0);
        }
        CHECK.is("1: fault", x.fault(), NONE);
        CHECK.is("1: undo", x.undo(), NONE);
        CHECK.is("1: restore", x.restore(), false);
        CHECK.noSuch("1: of", () -> x.of(0, 0));
        CHECK.is("1: come", x.come(0, 1), NONE);
        CHECK.is("1: NONE", BentShares.NONE, -1);
    }

    private static void promise2() {
        BentShares x = new BentShares();
        // 'clas' 's up' 'per ' '7 8 ' '9;  ': the highest byte of each number comes first.
        CHECK.is("2: feed", x.feed(0x636c6173, 0x73207570, 0x70657220, 0x37203820, 0x393b2020), 20);
        CHECK.is("2: tape", x.count(14), 20);
        CHECK.is("2: link", x.link(18), 0);
        CHECK.is("2: told", Checks.told(x, 0), "class share 10 0 10 upper 7 8 9;");
        for (int i = 1; i <= 35; i++) {
            CHECK.is("2: feed", x.feed(0x20202020, 0x0a0a0a0a, 0x20202020, 0x20202020, 0x20202020), 20 * i);
        }
        CHECK.is("2: full", x.feed(1, 2, 3, 4, 5), NONE);
        CHECK.is("2: none come", x.count(14), 700);
        CHECK.is("2: all 700 are blank", x.link(700), 0);
        x.feed(0xff202020, 0, 0, 0, 0);
        CHECK.is("2: a byte above 127 is no token", x.link(20), 1);
        CHECK.is("2: at its place", x.fault(), 0);
    }

    private static void promise3Texts() {
        BentShares x = Checks.linked("class;class in 0 grant 1 2 3 upper 4 5 6 share 0 30 100;class in 0;flow 2 200 199 64;flow 1 1 0 1;");
        CHECK.is("3: classes", x.count(0), 3);
        CHECK.is("3: flows", x.count(1), 2);
        CHECK.is("3: first", Checks.told(x, 0), "class share 10 0 10;");
        CHECK.is("3: second", Checks.told(x, 1), "class in 0 grant 1 2 3 share 0 30 100 upper 4 5 6;");
        CHECK.is("3: third", Checks.told(x, 2), "class in 0 share 10 0 10;");
        CHECK.is("3: empty text", Checks.linked("").count(0), 0);
        CHECK.is("3: blanks alone", Checks.linked(" \n  ").fault(), NONE);
        CHECK.is("3: no blanks", Checks.told(Checks.linked("class;class in0grant007 0 001;"), 1), "class in 0 grant 7 0 1 share 10 0 10;");
        CHECK.is("3: twelve", Checks.linked("class;".repeat(12)).count(0), 12);
        CHECK.is("3: eight", Checks.linked("class;" + "flow 0 1 0 1;".repeat(8)).count(1), 8);
        CHECK.is("3: a flow may go to one with grant", Checks.linked("class grant 1 0 1;flow 0 5 4 3;").count(1), 1);
        CHECK.is("3: in a class in a class", Checks.linked("class;class in 0;class in 1;class in 2;").of(3, 0), 2);
    }

    private static void promise3WhatStays() {
        BentShares x = Checks.linked("class;flow 0 7 3 5;");
        x.units(9);
        x.come(0, 4);
        x.come(0, 65);
        x.note(0, 5, 5);
        x.note(0, 101, 5);
        x.image();
        Checks.feed(x, "class;class in 5;");
        CHECK.illegal("3: below 0", () -> x.link(-1));
        CHECK.illegal("3: not so many", () -> x.link(21));
        CHECK.is("3: nothing changes", x.count(14), 20);
        CHECK.is("3: no fault by that", x.fault(), NONE);
        CHECK.is("3: fault", x.link(20), 3);
        int[] stays = {1, 1, 9, 0, 1, 1, 1, 0, 0, 50, 5, 0, 2, 1, 0, 1, 1, 1};
        for (int what = 0; what < 18; what++) {
            CHECK.is("3: behind a fault count(" + what + ")", x.count(what), stays[what]);
        }
        CHECK.is("3: the image stays", x.restore(), true);
        CHECK.is("3: the tape is empty behind a fault", x.count(14), 0);
        Checks.feed(x, "class; and more that does not count");
        CHECK.is("3: the first bytes alone", x.link(6), 0);
        int[] anew = {1, 0, 0, 0, 0, 0, 0, 0, 0, 0, 0, NONE, 0, 0, 0, 0, 1, 1};
        for (int what = 0; what < 18; what++) {
            CHECK.is("3: anew count(" + what + ")", x.count(what), anew[what]);
        }
        CHECK.is("3: no act is left", x.undo(), NONE);
        CHECK.is("3: the image is gone", x.restore(), false);
        CHECK.is("3: nothing was sent", x.of(0, 3) + x.of(0, 5) + x.of(0, 8), 0);
    }

    private static void promise4() {
        BentShares x = new BentShares();
        CHECK.is("4: none yet", x.fault(), NONE);
        Checks.link(x, "class ; flow 1 2 3 4;");
        CHECK.is("4: the place", x.fault(), 13);
        Checks.link(x, "class;");
        CHECK.is("4: none by the latest", x.fault(), NONE);
    }

    private static void promise34() {
        BentShares x = Checks.linked("class;class in 0 upper 100 30 100 grant 100 30 99;class in 0;");
        CHECK.is("34: inner", Checks.told(x, 0), "class share 10 0 10;");
        CHECK.is("34: all", Checks.told(x, 1), "class in 0 grant 100 30 99 share 10 0 10 upper 100 30 100;");
        x.lift(1, 0);
        x.change(1, 1, 0, 9, 1);
        CHECK.is("34: as it is", Checks.told(x, 1), "class in 0 share 0 9 1 upper 100 30 100;");
        BentShares y = Checks.linked(Checks.told(x, 0) + Checks.told(x, 1));
        CHECK.is("34: tells it again", Checks.told(y, 1), Checks.told(x, 1));
        CHECK.is("34: how many", x.told(0, NONE), 20);
        CHECK.is("34: the last", x.told(0, 19), ';');
        CHECK.noSuch("34: behind the last", () -> x.told(0, 20));
        CHECK.noSuch("34: below", () -> x.told(0, -2));
        CHECK.noSuch("34: no class", () -> x.told(3, NONE));
        CHECK.noSuch("34: no class below", () -> x.told(-1, NONE));
        BentShares twelve = Checks.linked("class;".repeat(11) + "class in 10 grant 100 30 100 share 100 30 100 upper 100 30 100;");
        CHECK.is("34: the longest", Checks.told(twelve, 11), "class in 10 grant 100 30 100 share 100 30 100 upper 100 30 100;");
    }
}
