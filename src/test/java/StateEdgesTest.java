import java.util.ArrayList;
import java.util.List;

/** Each sentence of promises 5 to 9, and of the terms that they use, that names a boundary case. */
public final class StateEdgesTest {
    private static final Checks CHECK = new Checks();
    private static final int NONE = BentShares.NONE;

    public static void main(String[] args) {
        CHECK.runAll(StateEdgesTest.class);
    }

    // ---- promise 5

    /** "NoSuchElementException: another what." */
    private static void promise5_anotherWhat() {
        BentShares x = Checks.linked("class;");
        int[] wrong = {18, 19, Integer.MAX_VALUE, -1, -18, Integer.MIN_VALUE};
        for (int what : wrong) {
            CHECK.noSuch("count(" + what + ")", () -> x.count(what));
        }
        CHECK.is("the last", x.count(17), 0);
        CHECK.is("no call that throws is counted", Checks.status(x), "0 0 0");
    }

    /** "0 CLASSES, 1 FLOWS": none, the most */
    private static void promise5_classesAndFlows() {
        BentShares x = Checks.linked("class;".repeat(12) + "flow 0 1 0 1;".repeat(8));
        CHECK.is("classes", x.count(0), 12);
        CHECK.is("flows", x.count(1), 8);
        Checks.link(x, "");
        CHECK.is("none", x.count(0) + x.count(1), 0);
    }

    /** "3 BUSY": "BUSY is its SIZE", then "one less, if it is more than 0" */
    private static void promise5_busy() {
        BentShares x = Checks.linked("class;");
        Checks.comes(x, 0, 64, 1);
        x.units(1);
        CHECK.is("its size, one less", x.count(3), 63);
        x.units(62);
        CHECK.is("one is left", x.count(3), 1);
        x.units(1);
        CHECK.is("none is left", x.count(3), 0);
        x.units(1);
        CHECK.is("a byte takes one unit", x.count(3), 0);
        CHECK.is("it went", x.count(6), 2);
        x.units(5);
        CHECK.is("never less than 0", x.count(3), 0);
    }

    /** "4 ACTIVE LEAVES": no other classes */
    private static void promise5_activeLeaves() {
        BentShares x = Checks.linked("class;class in 0;class in 0;class;");
        CHECK.is("none", x.count(4), 0);
        Checks.comes(x, 1, 5, 5);
        CHECK.is("one, in a class", x.count(4), 1);
        x.come(2, 5);
        x.come(3, 5);
        CHECK.is("all three", x.count(4), 3);
        x.empty(1);
        CHECK.is("two", x.count(4), 2);
        x.units(100);
        CHECK.is("none again", x.count(4), 0);
        BentShares first = Checks.linked("class;");
        first.come(0, 1);
        CHECK.is("class 0 by itself", first.count(4), 1);
    }

    /** "6 PACKETS that were CHOSEN ever, 7 by GRANT, 8 LOST ever" */
    private static void promise5_ever() {
        BentShares x = Checks.linked("class grant 1 0 1;class;flow 1 1 0 64;");
        Checks.comes(x, 0, 1, 1);
        x.units(64);
        CHECK.is("chosen", x.count(6), 2);
        CHECK.is("one of them by grant", x.count(7), 1);
        CHECK.is("of 64 one went, 20 wait", x.count(8), 43);
        x.empty(1);
        CHECK.is("lost ever", x.count(8), 43);
        CHECK.is("emptied ones were not chosen", x.count(6), 2);
    }

    /** "9 PEAK of the LINK": of the classes right in it alone */
    private static void promise5_peakOfTheLink() {
        BentShares x = Checks.linked("class share 100 0 100;class in 0 share 1 0 1;");
        x.come(1, 5);
        x.units(1);
        CHECK.is("virtual inside", x.of(1, 5), 500);
        CHECK.is("not of one that is deeper", x.count(9), 5);
        CHECK.is("of that it is the outer one's", x.of(0, 6), 500);
    }

    /** "10 BYTES SENT ever": none twice for being in a class */
    private static void promise5_bytesSent() {
        BentShares x = Checks.linked("class;class in 0;class in 1;class;");
        x.come(2, 7);
        x.come(3, 11);
        x.units(18);
        CHECK.is("sent", x.count(10), 18);
    }

    /** "11 the LEAF that was CHOSEN last (NONE: none yet)" */
    private static void promise5_chosenLast() {
        BentShares x = Checks.linked("class;class;");
        CHECK.is("none yet", x.count(11), NONE);
        x.come(0, 2);
        CHECK.is("still none", x.count(11), NONE);
        x.units(1);
        CHECK.is("leaf 0", x.count(11), 0);
        x.come(1, 2);
        x.units(1);
        CHECK.is("busy", x.count(11), 0);
        x.units(1);
        CHECK.is("leaf 1", x.count(11), 1);
        x.units(50);
        CHECK.is("stays", x.count(11), 1);
        x.undo();
        x.undo();
        CHECK.is("leaf 0 again", x.count(11), 0);
        x.undo();
        x.undo();
        x.undo();
        CHECK.is("none again", x.count(11), NONE);
        Checks.link(x, "class;");
        CHECK.is("none anew", x.count(11), NONE);
    }

    /** "12 ACTS that are kept": "at most 40" */
    private static void promise5_actsThatAreKept() {
        BentShares x = Checks.linked("class;");
        for (int i = 1; i <= 60; i++) {
            x.come(0, 1);
            CHECK.is("acts", x.count(12), Math.min(i, 40));
        }
        x.undo();
        CHECK.is("one less", x.count(12), 39);
        x.come(0, 0);
        CHECK.is("a refused one isn't", x.count(12), 39);
    }

    /** "15 to 17 STATUS 0 to 2" "(not counted where an exception tells it)" */
    private static void promise5_status() {
        BentShares x = Checks.linked("class;class;flow 0 9 9 1;");
        Checks.link(x, "x");
        Checks.link(x, "class;");
        Checks.link(x, "x");
        x.come(5, 1);
        x.units(0);
        x.change(0, 1, 10, 0, 10);
        x.empty(0);
        x.lift(0, 1);
        x.stop(5);
        x.note(5, 0, 0);
        CHECK.is("all three", Checks.status(x), "2 6 1");
        CHECK.noSuch("of", () -> x.of(5, 0));
        CHECK.illegal("toGrant", () -> x.toGrant(-1, 0));
        CHECK.illegal("link", () -> x.link(-1));
        CHECK.noSuch("storms", () -> x.storms(7, 1, 1, 1));
        CHECK.is("no exception counts", Checks.status(x), "2 6 1");
        x.undo();
        x.restore();
        x.undo();
        for (int i = 0; i < 40; i++) {
            x.feed(0, 0, 0, 0, 0);
        }
        CHECK.is("nor undo, restore, feed", Checks.status(x), "2 6 1");
        x.come(0, 1);
        x.undo();
        CHECK.is("nor is it undone", Checks.status(x), "2 6 1");
    }

    // ---- promise 6

    /** "NoSuchElementException: no such CLASS (as everywhere), another what." */
    private static void promise6_noSuch() {
        BentShares x = Checks.linked("class;class;");
        int[] noClass = {2, 11, 12, Integer.MAX_VALUE, -1, Integer.MIN_VALUE};
        for (int cls : noClass) {
            CHECK.noSuch("of(" + cls + ", 0)", () -> x.of(cls, 0));
        }
        int[] noWhat = {10, Integer.MAX_VALUE, -1, Integer.MIN_VALUE};
        for (int what : noWhat) {
            CHECK.noSuch("of(1, " + what + ")", () -> x.of(1, what));
        }
        CHECK.is("the last of both", x.of(1, 9), 0);
    }

    /** "0 in which it is (NONE: the LINK), 1 whether it is a LEAF" */
    private static void promise6_inWhich() {
        BentShares x = Checks.linked("class;class in 0;class in 1;class in 0;class;");
        int[] in = {NONE, 0, 1, 0, NONE};
        int[] leaf = {0, 0, 1, 1, 1};
        for (int cls = 0; cls < 5; cls++) {
            CHECK.is("in which", x.of(cls, 0), in[cls]);
            CHECK.is("leaf", x.of(cls, 1), leaf[cls]);
        }
    }

    /** "it is ACTIVE, if it has one; another CLASS is, if one in it is" */
    private static void promise6_active() {
        BentShares x = Checks.linked("class;class in 0;class in 1;class in 0;class;");
        String none = "00000";
        CHECK.is("none", active(x), none);
        x.come(2, 3);
        CHECK.is("all the way up", active(x), "11100");
        x.come(3, 3);
        CHECK.is("also beside", active(x), "11110");
        x.units(1);
        CHECK.is("2 has none left, 3 has one", active(x), "10010");
        x.units(3);
        CHECK.is("the last one went", active(x), none);
        CHECK.is("it is still being sent", x.count(3), 2);
    }

    private static String active(BentShares x) {
        StringBuilder text = new StringBuilder();
        for (int cls = 0; cls < x.count(0); cls++) {
            text.append(x.of(cls, 2));
        }
        return text.toString();
    }

    /** "(all of no LEAF: 4, 7, 8, 9 are 0)" */
    private static void promise6_ofNoLeaf() {
        BentShares x = Checks.linked("class;class in 0 grant 100 0 100;flow 1 1 0 2;");
        x.units(100);
        int[] leafs = {4, 7, 8, 9};
        for (int what : leafs) {
            CHECK.is("of the leaf", x.of(1, what) > 0, true);
            CHECK.is("of no leaf", x.of(0, what), 0);
        }
        CHECK.is("it sends all the same", x.of(0, 3), x.of(1, 3));
    }

    /** "GRANTED (of a LEAF: those of PACKETS that went by GRANT)" */
    private static void promise6_granted() {
        BentShares x = Checks.linked("class grant 10 0 10;");
        Checks.comes(x, 0, 3, 5);
        x.units(8);
        CHECK.is("sent", x.of(0, 3), 8);
        CHECK.is("the second went by share", x.of(0, 4), 3);
        x.lift(0, 0);
        CHECK.is("granted ever", x.of(0, 4), 3);
    }

    /** "PEAK .. (0 first)", of a leaf it is 0 */
    private static void promise6_peak() {
        BentShares x = Checks.linked("class;class in 0;class in 0 share 20 0 20;");
        CHECK.is("0 first", x.of(0, 6), 0);
        x.come(1, 4);
        x.come(2, 4);
        x.units(4);
        CHECK.is("of the first", x.of(0, 6), 40);
        x.units(4);
        CHECK.is("not less, by one of less", x.of(0, 6), 40);
        CHECK.is("that one", x.of(2, 5), 20);
        CHECK.is("of a leaf", x.of(1, 6), 0);
    }

    /** "8 PACKETS in the QUEUE, 9 BYTES in it": "at most 20 PACKETS" */
    private static void promise6_packetsAndBytes() {
        BentShares x = Checks.linked("class;");
        int bytes = 0;
        for (int i = 1; i <= 20; i++) {
            x.come(0, i);
            bytes += i;
            CHECK.is("packets", x.of(0, 8), i);
            CHECK.is("bytes", x.of(0, 9), bytes);
        }
        x.come(0, 64);
        CHECK.is("no more packets", x.of(0, 8), 20);
        CHECK.is("no more bytes", x.of(0, 9), 210);
        CHECK.is("lost", x.of(0, 7), 1);
        x.units(1);
        CHECK.is("19 wait", x.of(0, 8), 19);
        CHECK.is("but for the first", x.of(0, 9), 209);
    }

    /** "else it stays, also where it isn't ACTIVE any more" */
    private static void promise6_virtualStays() {
        BentShares x = Checks.linked("class;class;");
        x.come(0, 5);
        Checks.comes(x, 1, 50, 50);
        x.units(1);
        CHECK.is("sent, not active any more", x.of(0, 5) * 10 + x.of(0, 2), 500);
        x.units(100);
        CHECK.is("stays", x.of(0, 5), 50);
        x.come(0, 5);
        int woken = x.of(0, 5);
        x.empty(0);
        CHECK.is("stays where its queue is emptied", x.of(0, 5), woken);
        x.change(0, 1, 1, 0, 1);
        CHECK.is("stays where its share is changed", x.of(0, 5), woken);
    }

    // ---- promise 7

    /** "NoSuchElementException: also there is none, another curve, what." */
    private static void promise7_noSuch() {
        BentShares x = Checks.linked("class grant 1 2 3;class upper 4 5 6;");
        CHECK.noSuch("no upper", () -> x.curve(0, 2, 0));
        CHECK.noSuch("no grant", () -> x.curve(1, 0, 0));
        int[] wrong = {3, Integer.MAX_VALUE, -1, Integer.MIN_VALUE};
        for (int number : wrong) {
            CHECK.noSuch("curve " + number, () -> x.curve(0, number, 0));
            CHECK.noSuch("what " + number, () -> x.curve(0, 1, number));
            CHECK.noSuch("class " + number, () -> x.curve(number, 1, 0));
        }
        CHECK.noSuch("class 2", () -> x.curve(2, 1, 0));
        x.lift(0, 0);
        CHECK.noSuch("lifted", () -> x.curve(0, 0, 0));
        x.undo();
        CHECK.is("the lift is undone", x.curve(0, 0, 2), 3);
    }

    /** "a curve SHARE (10 0 10 without)" */
    private static void promise7_shareWithout() {
        BentShares x = Checks.linked("class;class grant 1 1 1 upper 2 2 2;class share 0 0 1;class in 0 share 10 0 10;");
        for (int cls = 0; cls < 4; cls++) {
            CHECK.is("M1", x.curve(cls, 1, 0), cls == 2 ? 0 : 10);
            CHECK.is("D", x.curve(cls, 1, 1), 0);
            CHECK.is("M2", x.curve(cls, 1, 2), cls == 2 ? 1 : 10);
        }
    }

    /** "M1 (0 to 100), D (0 to 30), M2 (1 to 100)" */
    private static void promise7_theEdgesOfACurve() {
        BentShares x = Checks.linked("class grant 0 0 1 share 100 30 100 upper 0 30 1;".repeat(12));
        int[][] due = {{0, 0, 1}, {100, 30, 100}, {0, 30, 1}};
        for (int curve = 0; curve < 3; curve++) {
            for (int what = 0; what < 3; what++) {
                CHECK.is("of the first", x.curve(0, curve, what), due[curve][what]);
                CHECK.is("of the last", x.curve(11, curve, what), due[curve][what]);
            }
        }
    }

    // ---- promise 8

    /** "(0 the first) .. NoSuchElementException: also there is none." */
    private static void promise8_thereIsNone() {
        BentShares x = Checks.linked("class;class in 0;class;");
        CHECK.noSuch("none has come", () -> x.packet(1, 0));
        Checks.comes(x, 1, 7, 64, 1);
        CHECK.is("the first", x.packet(1, 0), 7);
        CHECK.is("the last", x.packet(1, 2), 1);
        int[] none = {3, 19, 20, Integer.MAX_VALUE, -1, Integer.MIN_VALUE};
        for (int i : none) {
            CHECK.noSuch("packet(1, " + i + ")", () -> x.packet(1, i));
        }
        CHECK.noSuch("no leaf", () -> x.packet(0, 0));
        CHECK.noSuch("another leaf", () -> x.packet(2, 0));
        CHECK.noSuch("no class", () -> x.packet(3, 0));
        CHECK.noSuch("no class below", () -> x.packet(-1, 0));
        x.units(1);
        CHECK.is("the second is first then", x.packet(1, 0), 64);
        CHECK.noSuch("two are left", () -> x.packet(1, 2));
        x.empty(1);
        CHECK.noSuch("emptied", () -> x.packet(1, 0));
    }

    /** "is its QUEUE full, it is LOST; else it is the last one there": however often the queue has moved */
    private static void promise8_aFullQueueThatMoves() {
        BentShares x = Checks.linked("class;");
        int next = 0;
        for (int round = 0; round < 15; round++) {
            for (int more = x.of(0, 8); more < 20; more++) {
                x.come(0, 1 + next % 5);
                next++;
            }
            x.come(0, 64);
            for (int i = 0; i < 20; i++) {
                CHECK.is("packet " + i + " in round " + round, x.packet(0, i), 1 + (next - 20 + i) % 5);
            }
            x.units(5);
            CHECK.is("one goes at least", x.of(0, 8) < 20, true);
        }
    }

    // ---- promise 9

    /** "NoSuchElementException: also another what, it isn't such a one." */
    private static void promise9_isntSuchAOne() {
        BentShares x = Checks.linked("class upper 9 9 9;class in 0 grant 1 1 1;class in 0;");
        for (int what = 0; what < 3; what++) {
            int of = what;
            for (int cls = -1; cls < 4; cls++) {
                int asked = cls;
                CHECK.noSuch("none is active", () -> x.due(asked, of));
            }
        }
        x.come(1, 1);
        x.come(2, 1);
        CHECK.is("eligible of a leaf with grant", x.due(1, 0), 0);
        CHECK.is("fit of a leaf", x.due(1, 2), 0);
        CHECK.is("fit of no leaf", x.due(0, 2), 0);
        CHECK.is("fit of a leaf without upper", x.due(2, 2), 0);
        int[][] none = {{0, 0}, {0, 1}, {2, 0}, {2, 1}, {1, 3}, {1, -1}, {1, Integer.MAX_VALUE}, {1, Integer.MIN_VALUE}, {3, 2},
            {-1, 2}, {Integer.MAX_VALUE, 2}};
        for (int[] c : none) {
            CHECK.noSuch("due(" + c[0] + ", " + c[1] + ")", () -> x.due(c[0], c[1]));
        }
        x.empty(1);
        CHECK.noSuch("emptied", () -> x.due(1, 0));
        CHECK.noSuch("emptied has no fit", () -> x.due(1, 2));
        CHECK.is("the outer one has", x.due(0, 2), 0);
    }

    /** "A CURVE LAID at (x, y) REACHES n at x, if n is y or less" */
    private static void promise9_reachesAtX() {
        BentShares x = Checks.linked("class grant 0 30 1 upper 0 30 1;");
        x.units(40);
        x.come(0, 1);
        CHECK.is("eligible at 0 bytes", x.due(0, 0), 40);
        CHECK.is("fit at 0 bytes", x.due(0, 2), 40);
        CHECK.is("one byte more is behind the flat piece", x.due(0, 1), 170);
        x.units(1);
        x.come(0, 1);
        x.change(0, 0, 0, 29, 1);
        x.change(0, 2, 0, 29, 1);
        CHECK.is("eligible, laid at 1 granted", x.due(0, 0), 41);
        CHECK.is("fit, laid at 1 sent", x.due(0, 2), 41);
    }

    private static int deadline(String curve, int size) {
        BentShares x = Checks.linked("class grant " + curve + ";");
        x.come(0, size);
        return x.due(0, 1);
    }

    /** "the least z above x by which 100 times (n less y) is no more than M1 times .." */
    private static void promise9_theLeastZ() {
        CHECK.is("as much as that, just", deadline("100 0 100", 1), 1);
        CHECK.is("one hundredth less", deadline("99 0 99", 1), 2);
        CHECK.is("half as much", deadline("50 0 50", 1), 2);
        CHECK.is("a little less than half", deadline("49 0 49", 1), 3);
        CHECK.is("the least slope", deadline("1 0 1", 1), 100);
        CHECK.is("the greatest size", deadline("1 0 1", 64), 6400);
        CHECK.is("of 7", deadline("7 0 7", 64), 915);
    }

    /** "M1 times as much of z - x as is D at the most, and M2 times what of it is more than D" */
    private static void promise9_theBend() {
        CHECK.is("just at the bend", deadline("50 10 1", 5), 10);
        CHECK.is("a byte behind it", deadline("50 10 1", 6), 110);
        CHECK.is("ahead of it", deadline("50 10 1", 4), 8);
        CHECK.is("half a byte is left at the bend", deadline("50 11 1", 6), 61);
        CHECK.is("then steeper", deadline("1 30 100", 1), 31);
        CHECK.is("without a first piece", deadline("0 0 50", 3), 6);
        CHECK.is("a first piece of nothing", deadline("100 0 50", 3), 6);
        CHECK.is("a flat first piece", deadline("0 1 50", 3), 7);
        CHECK.is("a flat first piece of 30", deadline("0 30 50", 3), 36);
        CHECK.is("a first piece of 1", deadline("100 1 50", 1), 1);
        CHECK.is("and a byte more", deadline("100 1 50", 2), 3);
        CHECK.is("all of the first piece", deadline("100 30 1", 30), 30);
        CHECK.is("and one byte more", deadline("100 30 1", 31), 130);
    }

    /** "M1 times as much .. as is D at the most": at a bend of 1.9 bytes the second byte is behind it, the first isn't. */
    private static void promise9_theBendMissesAByte() {
        BentShares x = Checks.linked("class upper 10 19 1;");
        x.come(0, 1);
        x.units(50);
        x.come(0, 1);
        x.units(2);
        x.come(0, 1);
        CHECK.is("2 bytes are sent", x.of(0, 3), 2);
        CHECK.is("of those laid at (0, 0), (50, 1), (52, 2) the second reaches last", x.due(0, 2), 60);
    }

    private static int eligibleBehind10(String curve) {
        BentShares x = Checks.linked("class grant " + curve + ";");
        Checks.comes(x, 0, 10, 1);
        x.units(1);
        return x.due(0, 0);
    }

    /** "with M2 in place of M1 if M1 is less than M2" */
    private static void promise9_eligibleBySlopes() {
        CHECK.is("M1 is less: a straight line", eligibleBehind10("10 10 50"), 20);
        CHECK.is("by one", eligibleBehind10("49 10 50"), 20);
        CHECK.is("like", eligibleBehind10("50 10 50"), 20);
        CHECK.is("M1 is greater by one", eligibleBehind10("51 10 50"), 20);
        CHECK.is("M1 is greater", eligibleBehind10("100 5 10"), 55);
        CHECK.is("flat", eligibleBehind10("0 30 1"), 1000);
        BentShares x = Checks.linked("class grant 10 10 50;");
        Checks.comes(x, 0, 10, 1);
        x.units(1);
        CHECK.is("the deadline is by M1 all the same", x.due(0, 1), 30);
    }

    /** "where all that is LAID REACHES GRANTED and the SIZE of its first PACKET together" */
    private static void promise9_deadlineOfTheFirstPacket() {
        BentShares x = Checks.linked("class grant 50 0 50;");
        Checks.comes(x, 0, 4, 64, 1);
        CHECK.is("of the first", x.due(0, 1), 8);
        x.units(1);
        CHECK.is("of the second, above the first", x.due(0, 1), 136);
    }

    /** "the greatest of where all GRANT that is LAID REACHES" */
    private static void promise9_theGreatestOfAllLaid() {
        BentShares x = Checks.linked("class grant 10 0 10 upper 10 0 10;");
        x.come(0, 2);
        x.units(19);
        x.come(0, 3);
        CHECK.is("the first laying reaches later: 2 bytes from 0 on", x.due(0, 0), 20);
        CHECK.is("deadline by the first: 5 bytes from 0 on", x.due(0, 1), 50);
        CHECK.is("fit by the first", x.due(0, 2), 20);
        x.empty(0);
        x.units(2);
        x.come(0, 3);
        CHECK.is("the third, at 21, reaches later", x.due(0, 0), 21);
        CHECK.is("deadline by the third: 3 bytes from 21 on", x.due(0, 1), 51);
        CHECK.is("fit by the third", x.due(0, 2), 21);
    }

    /** "FIT .. (0 without UPPER)", "at least the least FIT of the ACTIVE ones right in it" */
    private static void promise9_fit() {
        BentShares x = Checks.linked("class;class in 0 upper 10 0 10;class in 0 upper 20 0 20;class in 0;");
        Checks.comes(x, 1, 10, 1);
        Checks.comes(x, 2, 10, 1);
        x.units(11);
        CHECK.is("both were sent", x.of(0, 3), 20);
        CHECK.is("of 1", x.due(1, 2), 100);
        CHECK.is("of 2", x.due(2, 2), 50);
        CHECK.is("the least of both", x.due(0, 2), 50);
        x.empty(2);
        CHECK.is("of the active one alone", x.due(0, 2), 100);
        x.come(3, 1);
        CHECK.is("0 without upper", x.due(3, 2), 0);
        CHECK.is("then the least is 0", x.due(0, 2), 0);
        x.change(0, 2, 1, 0, 1);
        CHECK.is("its own from now on", x.due(0, 2), 11);
        x.empty(3);
        CHECK.is("its own is less than the least", x.due(0, 2), 100);
    }

    /** A class in a class in a class: the least goes all the way up. */
    private static void promise9_fitThroughThree() {
        BentShares x = Checks.linked("class;class in 0;class in 1 upper 1 0 1;class in 1 upper 2 0 2;");
        Checks.comes(x, 2, 4, 4);
        Checks.comes(x, 3, 4, 4);
        x.units(5);
        CHECK.is("of the deepest", x.due(2, 2), 400);
        CHECK.is("of the other", x.due(3, 2), 200);
        CHECK.is("in the middle", x.due(1, 2), 200);
        CHECK.is("outside", x.due(0, 2), 200);
    }

    /** "the greatest of where all .. that is LAID": of a class that wakes all the time, with all that it has laid. */
    private static void promise9_allThatWasEverLaid() {
        int[][] curves = {{0, 30, 100}, {100, 30, 1}, {100, 10, 5}, {0, 1, 30}, {7, 0, 7}, {50, 30, 33}, {33, 30, 50}, {3, 30, 3},
            {100, 1, 1}, {1, 30, 100}, {99, 30, 98}, {0, 30, 1}, {20, 7, 90}, {90, 7, 20}};
        for (int i = 0; i < curves.length; i++) {
            for (int most = 1; most <= 4; most++) {
                new OneLeaf(curves[i], curves[(i + 1) % curves.length], curves[(i + 3) % curves.length], most).run();
            }
        }
    }

    /** A leaf by itself, reckoned by the terms alone: a packet a time, the next when it has gone or waits for long. */
    private static final class OneLeaf {
        private final int[] grant;
        private final int[] share;
        private final int[] upper;
        private final int most;
        private final BentShares x;
        private final List<int[]> grants = new ArrayList<>();
        private final List<int[]> shares = new ArrayList<>();
        private final List<int[]> uppers = new ArrayList<>();
        private int time = 0;
        private int busy = 0;
        private int sent = 0;
        private int granted = 0;
        private int virtual = 0;

        OneLeaf(int[] grant, int[] share, int[] upper, int most) {
            this.grant = grant;
            this.share = share;
            this.upper = upper;
            this.most = most;
            x = Checks.linked("class grant " + text(grant) + " share " + text(share) + " upper " + text(upper) + ";");
        }

        private static String text(int[] c) {
            return c[0] + " " + c[1] + " " + c[2];
        }

        private static int reaches(int[] c, int m1, int[] at, int n) {
            int z = at[0];
            while (n > at[1] && (z == at[0]
                    || 100 * (n - at[1]) > m1 * Math.min(z - at[0], c[1]) + c[2] * Math.max(z - at[0] - c[1], 0))) {
                z++;
            }
            return z;
        }

        private static int greatest(int[] c, int m1, List<int[]> laid, int n) {
            int greatest = 0;
            for (int[] at : laid) {
                greatest = Math.max(greatest, reaches(c, m1, at, n));
            }
            return greatest;
        }

        void run() {
            for (int packet = 0; packet < 60; packet++) {
                int size = 1 + packet * packet % 7 % most;
                x.come(0, size);
                shares.add(new int[] {virtual, sent});
                uppers.add(new int[] {time, sent});
                grants.add(new int[] {time, granted});
                int eligible = greatest(grant, Math.max(grant[0], grant[2]), grants, granted);
                int fit = greatest(upper, upper[0], uppers, sent);
                CHECK.is("eligible", x.due(0, 0), eligible);
                CHECK.is("deadline", x.due(0, 1), greatest(grant, grant[0], grants, granted + size));
                CHECK.is("fit", x.due(0, 2), fit);
                if (!goes(size, eligible, fit)) {
                    x.empty(0);
                }
                CHECK.is("sent", x.of(0, 3), sent);
                CHECK.is("granted", x.of(0, 4), granted);
                CHECK.is("virtual", x.of(0, 5), virtual);
            }
        }

        /** Whether it is chosen within 30 units. */
        private boolean goes(int size, int eligible, int fit) {
            int when = Math.max(time + busy, Math.min(eligible, fit));
            int units = Math.min(30, when - time + 1);
            x.units(units);
            time += units;
            busy = Math.max(0, busy - units);
            if (when >= time) {
                return false;
            }
            sent += size;
            granted += eligible <= when ? size : 0;
            busy = size - 1;
            virtual = greatest(share, share[0], shares, sent);
            return true;
        }
    }
}
