/** Each sentence of promises 10 to 16, 35 and 36, and of the terms that they use, that names a boundary case. */
public final class ActsEdgesTest {
    private static final Checks CHECK = new Checks();
    private static final int NONE = BentShares.NONE;
    private static final int[] FAR_OUT = {-1, -2, Integer.MIN_VALUE, Integer.MAX_VALUE};

    public static void main(String[] args) {
        CHECK.runAll(ActsEdgesTest.class);
    }

    private static void next(String what, BentShares x, int i, int leaf, int time, int byGrant) {
        CHECK.is(what + ": which leaf", x.next(i, 0), leaf);
        CHECK.is(what + ": when", x.next(i, 1), time);
        CHECK.is(what + ": by grant", x.next(i, 2), byGrant);
    }

    // ---- promise 10

    /** "NONE (STATUS 1): .. SIZE not 1 to 64." */
    private static void promise10_size() {
        BentShares x = Checks.linked("class;");
        CHECK.is("the least", x.come(0, 1), 1);
        CHECK.is("the greatest", x.come(0, 64), 2);
        CHECK.refused("0", x, () -> x.come(0, 0));
        CHECK.refused("65", x, () -> x.come(0, 65));
        for (int size : FAR_OUT) {
            CHECK.refused("size " + size, x, () -> x.come(0, size));
        }
    }

    /** "no such CLASS, no LEAF" */
    private static void promise10_noLeaf() {
        BentShares x = Checks.linked("class;class in 0;class in 1;");
        CHECK.refused("in it is one", x, () -> x.come(0, 1));
        CHECK.refused("in it is one, too", x, () -> x.come(1, 1));
        CHECK.refused("no class", x, () -> x.come(3, 1));
        CHECK.refused("no class of 12", x, () -> x.come(11, 1));
        for (int cls : FAR_OUT) {
            CHECK.refused("class " + cls, x, () -> x.come(cls, 1));
        }
        CHECK.is("the leaf", x.come(2, 1), 1);
    }

    /** "is its QUEUE full, it is LOST", an act all the same ("also if it is LOST") */
    private static void promise10_aFullQueue() {
        BentShares x = Checks.linked("class;class;");
        for (int i = 1; i <= 20; i++) {
            CHECK.is("one more", x.come(0, i), i);
            CHECK.is("none is lost", x.of(0, 7), 0);
        }
        for (int i = 1; i <= 3; i++) {
            CHECK.is("no more", x.come(0, 64), 20);
            CHECK.is("lost", x.of(0, 7), i);
            CHECK.is("an act", x.count(12), 20 + i);
        }
        CHECK.is("the last one is as it was", x.packet(0, 19), 20);
        CHECK.is("another queue has room", x.come(1, 64), 1);
        CHECK.is("not refused", x.count(16), 0);
        x.undo();
        x.undo();
        CHECK.is("one lost less", x.of(0, 7), 2);
    }

    /** "If the LEAF wasn't ACTIVE ahead of that, it WAKES": a second packet lays nothing. */
    private static void promise10_whoIsActiveDoesntWake() {
        BentShares x = Checks.linked("class upper 0 30 100;");
        Checks.comes(x, 0, 10, 10, 10);
        x.units(41);
        CHECK.is("two went", x.of(0, 3), 20);
        x.come(0, 10);
        next("the third", x, 1, 0, 50, 0);
        next("the fourth, by what was laid at first", x, 2, 0, 60, 0);
    }

    /** "and then each CLASS that it is in, from inside to outside, that wasn't ACTIVE" */
    private static void promise10_onlyThoseThatWerentActive() {
        BentShares x = Checks.linked("class upper 0 30 100;class in 0;class in 0;");
        Checks.comes(x, 1, 10, 10, 10);
        x.units(41);
        x.come(2, 10);
        next("at 50 one of both", x, 1, 1, 50, 0);
        next("at 60 the other", x, 2, 2, 60, 0);
        BentShares y = Checks.linked("class upper 0 30 100;class in 0;class in 0;");
        Checks.comes(y, 1, 10, 10, 10);
        y.units(41);
        y.empty(1);
        y.come(2, 10);
        CHECK.is("now it has woken: laid at 41, too", y.due(0, 2), 50);
        Checks.comes(y, 2, 10);
        next("at 50 one", y, 1, 2, 50, 0);
        next("then by what is laid at (41, 20)", y, 2, 2, 81, 0);
    }

    /** "START is the greater one of its VIRTUAL and .. half of the least and the greatest .. rounded down" */
    private static void promise10_startByHalf() {
        BentShares x = Checks.linked("class share 100 0 100;class share 100 0 100;class;class;");
        Checks.comes(x, 0, 7, 1);
        Checks.comes(x, 1, 8, 1);
        x.units(8);
        CHECK.is("of 0", x.of(0, 5), 7);
        CHECK.is("of 1", x.of(1, 5), 8);
        x.come(2, 1);
        CHECK.is("half of 15 is 7", x.of(2, 5), 7);
        x.come(3, 1);
        CHECK.is("of three the least and the greatest", x.of(3, 5), 7);
        x.empty(0);
        x.empty(3);
        x.empty(2);
        x.come(2, 1);
        CHECK.is("of one alone its own", x.of(2, 5), 8);
    }

    private static void promise10_startByItsOwnVirtual() {
        BentShares x = Checks.linked("class share 100 0 100;class share 100 0 100;");
        x.come(0, 9);
        Checks.comes(x, 1, 4, 1);
        x.units(10);
        CHECK.is("of 0", x.of(0, 5), 9);
        CHECK.is("of 1", x.of(1, 5), 4);
        x.come(0, 1);
        CHECK.is("it stays: half of 4 and 4 is less", x.of(0, 5), 9);
        x.units(4);
        x.come(1, 1);
        x.empty(0);
        CHECK.is("it woke at its own", x.of(1, 5), 9);
    }

    /** "else PEAK of that": none other is active */
    private static void promise10_startByPeak() {
        BentShares x = Checks.linked("class;class in 0 share 100 0 100;class in 0 share 50 0 50;class;");
        x.come(1, 9);
        x.units(9);
        x.come(2, 1);
        CHECK.is("peak of the class that it is in", x.of(2, 5), 9);
        CHECK.is("that one wakes at its own", x.of(0, 5), 90);
        x.empty(2);
        x.come(3, 1);
        CHECK.is("peak of the link", x.of(3, 5), 90);
        BentShares y = Checks.linked("class;class;class in 0;");
        y.come(1, 64);
        y.units(64);
        y.come(2, 1);
        CHECK.is("in a class of which none has ever sent: 0", y.of(2, 5), 0);
        CHECK.is("outside the peak", y.of(0, 5), 640);
    }

    /** "others that are right in the same": not those inside of them, nor those elsewhere */
    private static void promise10_startByThoseRightInTheSame() {
        BentShares x = Checks.linked("class share 100 0 100;class in 0 share 1 0 1;class;class in 0;");
        Checks.comes(x, 1, 2, 2);
        x.units(2);
        x.come(2, 1);
        CHECK.is("by 0 alone, not by 1", x.of(2, 5), 2);
        x.come(3, 1);
        CHECK.is("by 1 alone, not by 2", x.of(3, 5), 200);
    }

    /** "SHARE is LAID at (START, SENT), besides what was laid": the greatest of where both reach */
    private static void promise10_shareIsLaidBesides() {
        BentShares fast = Checks.linked("class share 0 10 100;");
        fast.come(0, 1);
        fast.units(1);
        CHECK.is("flat first", fast.of(0, 5), 11);
        fast.come(0, 1);
        fast.units(1);
        CHECK.is("the new one reaches later", fast.of(0, 5), 22);
        BentShares slow = Checks.linked("class share 100 10 1;");
        slow.come(0, 10);
        slow.units(10);
        CHECK.is("just to the bend", slow.of(0, 5), 10);
        slow.come(0, 10);
        slow.units(10);
        CHECK.is("the old one reaches later", slow.of(0, 5), 1010);
    }

    /** "UPPER at (TIME, SENT); GRANT at (TIME, GRANTED)" */
    private static void promise10_grantIsLaidAtGranted() {
        BentShares x = Checks.linked("class grant 10 0 10 upper 100 0 100;");
        Checks.comes(x, 0, 10, 10);
        x.units(100);
        Checks.passes(x, 200);
        CHECK.is("sent", x.of(0, 3), 20);
        CHECK.is("granted", x.of(0, 4), 10);
        x.come(0, 10);
        CHECK.is("eligible now", x.due(0, 0), 300);
        CHECK.is("ten bytes above what was granted", x.due(0, 1), 400);
        CHECK.is("fit now", x.due(0, 2), 300);
        x.units(1);
        x.come(0, 1);
        CHECK.is("ten bytes above what was sent", x.due(0, 2), 310);
    }

    // ---- promise 11

    /** "NONE (STATUS 1): not 1 to 100" */
    private static void promise11_howMany() {
        BentShares x = Checks.linked("class;flow 0 9 0 1;");
        CHECK.is("one", x.units(1), 1);
        CHECK.is("hundred", x.units(100), 101);
        CHECK.refused("none", x, () -> x.units(0));
        CHECK.refused("101", x, () -> x.units(101));
        for (int many : FAR_OUT) {
            CHECK.refused("units " + many, x, () -> x.units(many));
        }
    }

    /** "it would be above 2000" */
    private static void promise11_above2000() {
        BentShares x = Checks.linked("class;flow 0 9 0 1;");
        Checks.passes(x, 1900);
        CHECK.is("up to 2000", x.units(100), 2000);
        CHECK.refused("one more", x, () -> x.units(1));
        CHECK.refused("hundred more", x, () -> x.units(100));
        x.undo();
        x.units(1);
        CHECK.refused("one of hundred would be above", x, () -> x.units(100));
        CHECK.is("99 not", x.units(99), 2000);
        CHECK.is("packets come all the same", x.come(0, 1), x.of(0, 8));
    }

    /** "if TIME MOD EVERY is PHASE" */
    private static void promise11_timeModEvery() {
        BentShares x = Checks.linked("class;class;class;class;flow 0 7 4 1;flow 1 200 199 1;flow 2 5 5 1;flow 3 150 0 1;");
        int[] due = {4, 11, 18, 25};
        next("the first unit", x, 1, 3, 0, 0);
        for (int i = 0; i < due.length; i++) {
            next("each seventh", x, i + 2, 0, due[i], 0);
        }
        Checks.passes(x, 198);
        next("the last of 200", x, 1, 1, 199, 0);
        CHECK.is("phase 0 at 0 and 150", x.of(3, 3), 2);
        Checks.passes(x, 1700);
        CHECK.is("a phase of its every or more never comes", x.of(2, 3) + x.of(2, 8), 0);
        CHECK.is("each 200", x.of(1, 3), 9);
        BentShares each = Checks.linked("class;flow 0 1 0 1;flow 0 1 1 1;");
        each.units(100);
        CHECK.is("in each unit one", each.of(0, 3), 100);
    }

    /** "(a) FLOW by FLOW": the last place is the lesser flow's */
    private static void promise11_flowByFlow() {
        BentShares x = Checks.linked("class upper 1 0 1;flow 0 200 5 7;flow 0 200 5 9;");
        for (int i = 0; i < 20; i++) {
            x.come(0, 1);
        }
        x.units(5);
        CHECK.is("one went", x.of(0, 8), 19);
        x.units(1);
        CHECK.is("the first flow's", x.packet(0, 19), 7);
        CHECK.is("the second one's is lost", x.of(0, 7), 1);
        CHECK.is("of its size nothing is left", x.of(0, 9), 18 + 1 + 7);
    }

    /** "(b) If BUSY is 0": (a) is ahead of it, (c) behind it */
    private static void promise11_ifBusyIs0() {
        BentShares x = Checks.linked("class;flow 0 200 4 1;");
        Checks.comes(x, 0, 2, 1);
        next("first", x, 1, 0, 0, 0);
        next("two units later", x, 2, 0, 2, 0);
        next("in the unit in which it comes", x, 3, 0, 4, 0);
    }

    /** "whose ELIGIBLE is TIME or less" */
    private static void promise11_eligibleJustNow() {
        BentShares x = Checks.linked("class grant 10 0 10 upper 1 0 1;");
        Checks.comes(x, 0, 10, 10);
        next("the first", x, 1, 0, 0, 1);
        x.units(1);
        CHECK.is("eligible", x.due(0, 0), 100);
        CHECK.is("fit", x.due(0, 2), 1000);
        next("just then", x, 1, 0, 100, 1);
    }

    /** "it goes by GRANT; if there is none": ahead of all share, whatever UPPER says */
    private static void promise11_grantAheadOfShare() {
        BentShares x = Checks.linked("class;class grant 100 0 100 upper 1 0 1;");
        x.come(0, 5);
        Checks.comes(x, 1, 5, 5);
        next("the first", x, 1, 1, 0, 1);
        next("upper holds no grant", x, 2, 1, 5, 1);
        next("then by share", x, 3, 0, 10, 0);
    }

    /** "the one of least DEADLINE (of like ones the least number)" */
    private static void promise11_leastDeadline() {
        BentShares like = Checks.linked("class grant 50 0 50;class grant 50 0 50;class grant 50 0 50;");
        Checks.comes(like, 2, 5);
        Checks.comes(like, 1, 5);
        Checks.comes(like, 0, 5);
        next("of like ones", like, 1, 0, 0, 1);
        next("of the rest", like, 2, 1, 5, 1);
        BentShares least = Checks.linked("class grant 100 0 100;class grant 100 0 100;");
        Checks.comes(least, 0, 5);
        Checks.comes(least, 1, 4);
        next("a unit less", least, 1, 1, 0, 1);
        next("then the other", least, 2, 0, 4, 1);
    }

    /** "whose FIT is TIME or less" */
    private static void promise11_fitJustNow() {
        BentShares x = Checks.linked("class upper 10 0 10;");
        Checks.comes(x, 0, 10, 10);
        x.units(1);
        CHECK.is("fit", x.due(0, 2), 100);
        next("just then", x, 1, 0, 100, 0);
        BentShares in = Checks.linked("class upper 10 0 10;class in 0;");
        Checks.comes(in, 1, 10, 10);
        next("the outer one's", in, 2, 1, 100, 0);
        BentShares deep = Checks.linked("class;class in 0 upper 10 0 10;");
        Checks.comes(deep, 1, 10, 10);
        next("the inner one's", deep, 2, 1, 100, 0);
    }

    private static void promise11_whoDoesntFitIsLeftOut() {
        BentShares x = Checks.linked("class;class in 0 upper 2 0 2;class in 0 share 1 0 1;");
        Checks.comes(x, 1, 5, 5);
        Checks.comes(x, 2, 5, 5);
        next("of like ones the least", x, 1, 1, 0, 0);
        next("the other", x, 2, 2, 5, 0);
        next("the other again, though its virtual time is more", x, 3, 2, 10, 0);
        next("the rest waits", x, 4, 1, 250, 0);
    }

    /** "the one of least VIRTUAL (of like ones the least number), then so of those right in that" */
    private static void promise11_leastVirtual() {
        BentShares x = Checks.linked("class;class;class in 0;class in 0;class in 1;class in 1;");
        for (int leaf = 5; leaf >= 2; leaf--) {
            Checks.comes(x, leaf, 10);
        }
        int[] order = {2, 4, 3, 5};
        for (int i = 0; i < 4; i++) {
            next("by turns", x, i + 1, order[i], 10 * i, 0);
        }
        BentShares least = Checks.linked("class share 100 0 100;class share 100 0 100;");
        Checks.comes(least, 0, 6, 1, 1);
        Checks.comes(least, 1, 5, 1, 1, 1);
        int[] leaves = {0, 1, 1, 0, 1, 0};
        int[] times = {0, 6, 11, 12, 13, 14};
        for (int i = 0; i < 6; i++) {
            next("one less, then like", least, i + 1, leaves[i], times[i], 0);
        }
    }

    /** "none, if there is none at the LINK" */
    private static void promise11_noneIsChosen() {
        BentShares x = Checks.linked("class upper 1 0 1;class upper 0 30 1;");
        Checks.comes(x, 0, 1, 1);
        Checks.comes(x, 1, 1, 1);
        x.units(99);
        CHECK.is("one of each", x.count(6), 2);
        CHECK.is("not busy", x.count(3), 0);
        x.units(1);
        CHECK.is("not yet", x.count(6), 2);
        x.units(1);
        CHECK.is("now", x.count(6), 3);
        CHECK.is("the time goes on", x.count(2), 101);
    }

    /** "SENT of it and of all that it is in is its SIZE more" */
    private static void promise11_sentOfAllThatItIsIn() {
        BentShares x = Checks.linked("class;class in 0;class in 1;class in 1;class in 0;");
        x.come(2, 7);
        x.units(7);
        int[] sent = {7, 7, 7, 0, 0};
        for (int cls = 0; cls < 5; cls++) {
            CHECK.is("sent of " + cls, x.of(cls, 3), sent[cls]);
            CHECK.is("virtual of " + cls, x.of(cls, 5), 10 * sent[cls]);
        }
    }

    /** A class in a class, eleven deep: all twelve wake, and send. */
    private static void promise11_twelveDeep() {
        StringBuilder text = new StringBuilder("class;");
        for (int in = 0; in < 11; in++) {
            text.append("class in ").append(in).append(" upper 50 0 50;");
        }
        BentShares x = Checks.linked(text.toString());
        Checks.comes(x, 11, 64, 1);
        x.units(100);
        for (int cls = 0; cls < 12; cls++) {
            CHECK.is("sent", x.of(cls, 3), 64);
            CHECK.is("active", x.of(cls, 2), 1);
            CHECK.is("fit", x.due(cls, 2), 128);
        }
        next("the second", x, 1, 11, 128, 0);
    }

    // ---- promise 12

    /** "NONE (STATUS 1): no such CLASS, curve, a number not as told" */
    private static void promise12_notAsTold() {
        BentShares x = Checks.linked("class;class in 0 grant 1 1 1;");
        CHECK.refused("class 2", x, () -> x.change(2, 1, 1, 1, 1));
        CHECK.refused("curve 3", x, () -> x.change(1, 3, 1, 1, 1));
        CHECK.refused("M1 101", x, () -> x.change(1, 1, 101, 1, 1));
        CHECK.refused("D 31", x, () -> x.change(1, 1, 1, 31, 1));
        CHECK.refused("M2 0", x, () -> x.change(1, 1, 1, 1, 0));
        CHECK.refused("M2 101", x, () -> x.change(1, 1, 1, 1, 101));
        for (int far : FAR_OUT) {
            CHECK.refused("class " + far, x, () -> x.change(far, 1, 1, 1, 1));
            CHECK.refused("curve " + far, x, () -> x.change(1, far, 1, 1, 1));
            CHECK.refused("M1 " + far, x, () -> x.change(1, 1, far, 1, 1));
            CHECK.refused("D " + far, x, () -> x.change(1, 1, 1, far, 1));
            CHECK.refused("M2 " + far, x, () -> x.change(1, 1, 1, 1, far));
        }
        CHECK.is("all at their most", x.change(1, 0, 100, 30, 100), 1);
        CHECK.is("all at their least", x.change(1, 0, 0, 0, 1), 1);
        CHECK.is("upper at its most", x.change(1, 2, 100, 30, 100), 0);
    }

    /** "GRANT of no LEAF"; the other curves of one are changed */
    private static void promise12_grantOfNoLeaf() {
        BentShares x = Checks.linked("class;class in 0;");
        CHECK.refused("grant", x, () -> x.change(0, 0, 5, 5, 5));
        CHECK.is("share", x.change(0, 1, 5, 5, 5), 1);
        CHECK.is("upper", x.change(0, 2, 5, 5, 5), 0);
        CHECK.is("grant of the leaf", x.change(1, 0, 5, 5, 5), 0);
    }

    /** "it is so already": all three numbers, and it is there */
    private static void promise12_itIsSoAlready() {
        BentShares x = Checks.linked("class grant 5 6 7 upper 8 9 9;");
        int[][] so = {{5, 6, 7}, {10, 0, 10}, {8, 9, 9}};
        for (int curve = 0; curve < 3; curve++) {
            int c = curve;
            int[] n = so[curve];
            CHECK.refused("curve " + c, x, () -> x.change(0, c, n[0], n[1], n[2]));
            CHECK.is("another M1", x.change(0, c, n[0] + 1, n[1], n[2]), 1);
            CHECK.is("as it was", x.change(0, c, n[0], n[1], n[2]), 1);
            CHECK.is("another D", x.change(0, c, n[0], n[1] + 1, n[2]), 1);
            CHECK.is("as it was", x.change(0, c, n[0], n[1], n[2]), 1);
            CHECK.is("another M2", x.change(0, c, n[0], n[1], n[2] + 1), 1);
        }
        x.lift(0, 2);
        CHECK.is("a lifted one isn't so", x.change(0, 2, 8, 9, 10), 0);
        x.undo();
        x.undo();
        CHECK.refused("undone, it is", x, () -> x.change(0, 2, 8, 9, 10));
    }

    /** "of an ACTIVE CLASS all that was LAID of it is gone, and it is LAID once: SHARE at (VIRTUAL, SENT)" */
    private static void promise12_shareOfAnActiveOne() {
        BentShares x = Checks.linked("class share 100 10 1;");
        Checks.comes(x, 0, 10, 10);
        x.units(1);
        CHECK.is("virtual", x.of(0, 5), 10);
        CHECK.is("change", x.change(0, 1, 100, 11, 1), 1);
        CHECK.is("virtual stays", x.of(0, 5), 10);
        x.units(10);
        CHECK.is("ten bytes from (10, 10) on", x.of(0, 5), 20);
    }

    /** "UPPER at (TIME, SENT), GRANT at (TIME, GRANTED)" */
    private static void promise12_upperAndGrantOfAnActiveOne() {
        BentShares x = Checks.linked("class grant 10 0 10 upper 100 0 100;");
        Checks.comes(x, 0, 10, 10, 10);
        x.units(20);
        CHECK.is("sent", x.of(0, 3), 20);
        CHECK.is("granted", x.of(0, 4), 10);
        x.change(0, 0, 20, 0, 20);
        CHECK.is("eligible now", x.due(0, 0), 20);
        CHECK.is("ten bytes above what was granted", x.due(0, 1), 70);
        x.change(0, 2, 20, 0, 20);
        CHECK.is("fit now", x.due(0, 2), 20);
        x.come(0, 1);
        x.units(1);
        CHECK.is("ten bytes above what was sent", x.due(0, 2), 70);
    }

    /** "of another one all that was LAID of it is gone": nothing is laid until it wakes */
    private static void promise12_ofAnotherOne() {
        BentShares x = Checks.linked("class grant 1 0 1 share 1 0 1 upper 1 0 1;");
        x.come(0, 3);
        x.units(10);
        CHECK.is("virtual", x.of(0, 5), 300);
        x.change(0, 0, 100, 0, 100);
        x.change(0, 1, 100, 0, 100);
        x.change(0, 2, 100, 0, 100);
        Checks.comes(x, 0, 5, 1);
        CHECK.is("eligible when it woke", x.due(0, 0), 10);
        CHECK.is("deadline", x.due(0, 1), 15);
        CHECK.is("fit when it woke", x.due(0, 2), 10);
        x.units(1);
        CHECK.is("virtual, five above", x.of(0, 5), 305);
        CHECK.is("fit, five above", x.due(0, 2), 15);
    }

    // ---- promise 13

    /** "NONE (STATUS 1): no such CLASS, none are." */
    private static void promise13_noneAre() {
        BentShares x = Checks.linked("class;class in 0;class;");
        CHECK.refused("none has come", x, () -> x.empty(2));
        Checks.comes(x, 1, 1, 2);
        CHECK.refused("no leaf, active", x, () -> x.empty(0));
        CHECK.refused("no class", x, () -> x.empty(3));
        for (int cls : FAR_OUT) {
            CHECK.refused("class " + cls, x, () -> x.empty(cls));
        }
        CHECK.is("two are", x.empty(1), 2);
        CHECK.refused("none are any more", x, () -> x.empty(1));
        x.come(2, 1);
        x.units(1);
        CHECK.refused("the last one was chosen", x, () -> x.empty(2));
    }

    /** "how many PACKETS were there", up to 20 */
    private static void promise13_aFullOne() {
        BentShares x = Checks.linked("class;");
        for (int i = 0; i < 21; i++) {
            x.come(0, 1);
        }
        CHECK.is("twenty", x.empty(0), 20);
        CHECK.is("one was lost, no more", x.count(8), 1);
        CHECK.is("none is there", x.of(0, 8) + x.of(0, 9) + x.count(5), 0);
        CHECK.is("it may fill again", x.come(0, 9), 1);
        CHECK.is("with what comes then", x.packet(0, 0), 9);
    }

    /** "(the LEAF isn't ACTIVE then, nor those in which none is)" */
    private static void promise13_norThoseInWhichNoneIs() {
        BentShares x = Checks.linked("class;class in 0;class in 1;class in 0;");
        x.come(2, 5);
        x.come(3, 5);
        x.empty(2);
        CHECK.is("the leaf", x.of(2, 2), 0);
        CHECK.is("what it alone was in", x.of(1, 2), 0);
        CHECK.is("in that is another one", x.of(0, 2), 1);
        x.empty(3);
        CHECK.is("none any more", x.of(0, 2), 0);
        x.units(1);
        CHECK.is("none is chosen", x.count(6), 0);
    }

    // ---- promise 14

    /** "False (STATUS 1): no such CLASS, curve (SHARE, too), there is none." */
    private static void promise14_thereIsNone() {
        BentShares x = Checks.linked("class upper 1 1 1;class in 0 grant 1 1 1;");
        CHECK.refused("share", x, () -> x.lift(0, 1) ? 1 : 0, 0);
        CHECK.refused("no grant", x, () -> x.lift(0, 0) ? 1 : 0, 0);
        CHECK.refused("no upper", x, () -> x.lift(1, 2) ? 1 : 0, 0);
        CHECK.refused("curve 3", x, () -> x.lift(0, 3) ? 1 : 0, 0);
        CHECK.refused("class 2", x, () -> x.lift(2, 2) ? 1 : 0, 0);
        for (int far : FAR_OUT) {
            CHECK.refused("curve " + far, x, () -> x.lift(0, far) ? 1 : 0, 0);
            CHECK.refused("class " + far, x, () -> x.lift(far, 2) ? 1 : 0, 0);
        }
        CHECK.is("upper of no leaf", x.lift(0, 2), true);
        CHECK.is("grant", x.lift(1, 0), true);
        CHECK.refused("upper is lifted", x, () -> x.lift(0, 2) ? 1 : 0, 0);
        CHECK.refused("grant is lifted", x, () -> x.lift(1, 0) ? 1 : 0, 0);
    }

    /** "there is none any more, nor what was LAID of it" */
    private static void promise14_norWhatWasLaid() {
        BentShares x = Checks.linked("class grant 2 0 2 upper 2 0 2;");
        Checks.comes(x, 0, 5, 5, 5);
        x.units(10);
        next("held by both", x, 1, 0, 250, 1);
        x.lift(0, 0);
        next("held by upper", x, 1, 0, 250, 0);
        x.lift(0, 2);
        next("held by none", x, 1, 0, 10, 0);
        x.change(0, 2, 1, 0, 1);
        x.change(0, 0, 1, 0, 1);
        CHECK.is("laid once, now", x.due(0, 2), 10);
        CHECK.is("grant, too", x.due(0, 0), 10);
        CHECK.is("its deadline", x.due(0, 1), 510);
    }

    // ---- promise 15

    /** "NONE (STATUS 1): no such FLOW." */
    private static void promise15_noSuchFlow() {
        BentShares x = Checks.linked("class;flow 0 9 0 1;flow 0 9 0 1;");
        CHECK.refused("flow 2", x, () -> x.stop(2));
        CHECK.refused("flow 8", x, () -> x.stop(8));
        CHECK.refused("flow 32", x, () -> x.stop(32));
        for (int flow : FAR_OUT) {
            CHECK.refused("flow " + flow, x, () -> x.stop(flow));
        }
        CHECK.is("the last", x.stop(1), 2);
        BentShares none = Checks.linked("class;");
        CHECK.refused("without flows", none, () -> none.stop(0));
    }

    /** "FLOWS that are STOPPED (bits)" */
    private static void promise15_bits() {
        BentShares x = Checks.linked("class;" + "flow 0 9 0 1;".repeat(8));
        int bits = 0;
        for (int flow = 0; flow < 8; flow++) {
            bits += 1 << flow;
            CHECK.is("stopped", x.stop(flow), bits);
        }
        for (int flow = 0; flow < 8; flow++) {
            bits -= 1 << flow;
            CHECK.is("goes again", x.stop(flow), bits);
        }
    }

    /** "it tells no PACKETS; or it goes again": what it would have told doesn't come later */
    private static void promise15_whatItTells() {
        BentShares x = Checks.linked("class;flow 0 10 3 2;");
        x.stop(0);
        x.units(4);
        CHECK.is("none", x.of(0, 3), 0);
        x.stop(0);
        x.units(9);
        CHECK.is("nor later", x.of(0, 3), 0);
        x.units(1);
        CHECK.is("the next one", x.of(0, 3), 2);
        x.units(9);
        x.stop(0);
        x.units(1);
        CHECK.is("stopped just ahead of it", x.of(0, 3), 2);
    }

    // ---- promise 16

    /** "NONE: there is none." */
    private static void promise16_thereIsNone() {
        BentShares x = Checks.linked("class;");
        CHECK.is("none yet", x.undo(), NONE);
        x.units(1);
        CHECK.is("the last one", x.undo(), 0);
        CHECK.is("none any more", x.undo(), NONE);
        CHECK.is("no status counts it", Checks.status(x), "0 0 0");
        x.units(1);
        Checks.link(x, "class;");
        CHECK.is("none behind another text", x.undo(), NONE);
    }

    /** "ACTS (at most 40 are kept, the latest ones ..)": undone one by one, the last one first */
    private static void promise16_theLatest40() {
        int[] acts = {39, 40, 41, 42, 79, 80, 81, 123};
        for (int many : acts) {
            BentShares x = Checks.linked("class;");
            for (int i = 0; i < many; i++) {
                x.units(1);
            }
            int kept = Math.min(many, 40);
            for (int left = kept - 1; left >= 0; left--) {
                CHECK.is("of " + many, x.undo(), left);
                CHECK.is("the time of " + many, x.count(2), many - kept + left);
            }
            CHECK.is("no more of " + many, x.undo(), NONE);
            CHECK.is("the first are not undone", x.count(2), many - kept);
        }
    }

    /** Acts behind some that were undone: the ring of what is kept goes round. */
    private static void promise16_undoneAndDoneAgain() {
        BentShares x = Checks.linked("class;");
        for (int i = 0; i < 50; i++) {
            x.units(1);
        }
        for (int i = 0; i < 10; i++) {
            x.undo();
        }
        CHECK.is("thirty are left", x.count(12), 30);
        for (int i = 0; i < 15; i++) {
            x.units(2);
        }
        CHECK.is("forty again", x.count(12), 40);
        for (int i = 0; i < 15; i++) {
            x.undo();
        }
        CHECK.is("as behind the undone ones", x.count(2), 40);
        for (int left = 24; left >= 0; left--) {
            CHECK.is("the others", x.undo(), left);
        }
        CHECK.is("the first that is kept", x.count(2), 15);
    }

    /** "what its call doesn't refuse is one, also where all is as it was" */
    private static void promise16_alsoWhereAllIsAsItWas() {
        BentShares x = Checks.linked("class;class;flow 0 9 0 1;");
        for (int i = 0; i < 21; i++) {
            x.come(0, 1);
        }
        CHECK.is("one that is lost", x.count(12), 21);
        x.stop(0);
        x.stop(0);
        CHECK.is("stopped, and going again", x.count(12), 23);
        x.change(1, 0, 1, 1, 1);
        x.lift(1, 0);
        CHECK.is("changed, and lifted", x.count(12), 25);
        x.note(0, 1, 1);
        x.forget();
        x.image();
        x.then(0, 400, 0);
        x.years(1, 60, 0);
        CHECK.is("what is no act", x.count(12), 25);
    }

    private static void undone(BentShares x, String what, Runnable act) {
        String before = Checks.all(x);
        act.run();
        CHECK.is(what + " did something", Checks.all(x).equals(before), false);
        x.undo();
        CHECK.is(what + " is undone", Checks.all(x), before);
    }

    /** Each kind of act by itself. */
    private static void promise16_eachKind() {
        BentShares x = Checks.linked("class upper 9 9 9;class in 0 grant 9 9 9;class in 0;flow 1 3 0 2;flow 2 7 1 64;");
        for (int i = 0; i < 21; i++) {
            x.come(2, 1 + i);
        }
        x.units(30);
        undone(x, "a packet", () -> x.come(1, 5));
        undone(x, "a lost one", () -> x.come(2, 5));
        undone(x, "a unit", () -> x.units(1));
        undone(x, "hundred units", () -> x.units(100));
        undone(x, "a grant", () -> x.change(1, 0, 1, 2, 3));
        undone(x, "a share", () -> x.change(0, 1, 1, 2, 3));
        undone(x, "an upper", () -> x.change(2, 2, 1, 2, 3));
        undone(x, "a lifted grant", () -> x.lift(1, 0));
        undone(x, "a lifted upper", () -> x.lift(0, 2));
        undone(x, "a queue", () -> x.empty(2));
        undone(x, "a flow", () -> x.stop(0));
        x.stop(0);
        undone(x, "one that goes again", () -> x.stop(0));
    }

    // ---- promises 35, 36

    /** "False: there is none." */
    private static void promise36_thereIsNone() {
        BentShares x = new BentShares();
        CHECK.is("of a new one", x.restore(), false);
        x.image();
        CHECK.is("of a new one kept", x.restore(), true);
        Checks.link(x, "class;");
        CHECK.is("gone by a text", x.restore(), false);
        x.image();
        Checks.link(x, "class");
        CHECK.is("not by a fault", x.restore(), true);
        CHECK.illegal("one that throws", () -> x.link(1));
        CHECK.is("nor by an exception", x.restore(), true);
        CHECK.is("not counted", Checks.status(x), "0 0 0");
    }

    /** "in place of another one" */
    private static void promise35_inPlaceOfAnotherOne() {
        BentShares x = Checks.linked("class;");
        x.units(3);
        x.image();
        x.units(4);
        x.image();
        x.units(5);
        CHECK.is("restored", x.restore(), true);
        CHECK.is("the second", x.count(2), 7);
        x.restore();
        CHECK.is("once more", x.count(2), 7);
    }

    /** "AN IMAGE keeps all that UNITS and ACTS change, ACTS that are kept, what is NOTED, STATUS." */
    private static void promise36_allThatItKeeps() {
        BentShares x = Checks.linked("class upper 9 9 9;class in 0 grant 9 9 9;class in 0;flow 1 3 0 2;flow 2 7 1 64;");
        for (int i = 0; i < 45; i++) {
            x.come(1 + i % 2, 1 + i);
        }
        x.units(77);
        x.stop(1);
        x.note(0, 9, 9);
        x.note(0, 9, -9);
        x.come(0, 0);
        Checks.link(x, "x");
        x.image();
        String before = Checks.all(x);
        for (int times = 0; times < 2; times++) {
            x.units(50);
            x.lift(1, 0);
            x.change(0, 1, 1, 1, 1);
            x.empty(1);
            x.stop(0);
            for (int i = 0; i < 10 + 30 * times; i++) {
                x.undo();
            }
            x.forget();
            x.note(1, 1, 1);
            x.note(2, 2, 2);
            x.come(7, 7);
            CHECK.is("restored", x.restore(), true);
            CHECK.is("all", Checks.all(x), before);
            CHECK.is("STATUS", Checks.status(x), "1 1 1");
        }
        for (int left = 39; left >= 0; left--) {
            CHECK.is("acts are undone", x.undo(), left);
        }
        CHECK.is("to the ninth packet's time", x.of(1, 8) + x.of(2, 8), 7);
        CHECK.is("and restored again", x.restore(), true);
        CHECK.is("all again", Checks.all(x), before);
    }

    /** "what is NOTED": each by its class, units and bytes */
    private static void promise36_whatIsNoted() {
        BentShares x = Checks.linked("class;class;flow 0 20 0 3;flow 1 20 1 4;");
        x.note(1, 25, 8);
        x.note(0, 25, 6);
        x.note(0, 2, 3);
        x.image();
        for (int odd = 0; odd < 3; odd++) {
            x.forget();
            x.note(0, 1, 0);
            x.note(0, 0, 1);
            x.note(1, 99, 0);
            x.note(1, 98, 0);
            CHECK.is("others are noted", x.other(2), 0);
            x.restore();
            CHECK.is("three", x.count(13), 3);
            CHECK.is("so without", x.other(2), 1);
            CHECK.is("none of another size", x.other(0), 0);
        }
        x.note(1, 3, 5);
        CHECK.is("one more is not so", x.other(2), 0);
        x.restore();
        x.note(1, 24, 8);
        CHECK.is("one more is so", x.other(2), 1);
    }

    /** What an image doesn't keep: the tape, the place of the fault. */
    private static void promise36_whatItDoesntKeep() {
        BentShares x = Checks.linked("class;");
        x.image();
        Checks.link(x, "  x");
        Checks.feed(x, "class;class;");
        x.restore();
        CHECK.is("the tape", x.count(14), 20);
        CHECK.is("the fault's place", x.fault(), 2);
        CHECK.is("the text can be read", x.link(20), 0);
        CHECK.is("its classes", x.count(0), 2);
    }
}
