/** Each sentence of promises 1 to 4 and 34, and of the terms that they use, that names a boundary case. */
public final class TextEdgesTest {
    private static final Checks CHECK = new Checks();
    private static final int NONE = BentShares.NONE;
    private static final int BLANKS = 0x20202020;

    public static void main(String[] args) {
        CHECK.runAll(TextEdgesTest.class);
    }

    /** A text with a fault: its code, its place; one more text is refused, all else stays. */
    private static void fault(String text, int code, int place) {
        BentShares x = Checks.linked("class upper 1 2 3;flow 0 7 3 5;");
        x.units(9);
        x.note(0, 3, 4);
        int faultless = x.fault();
        String before = Checks.all(x);
        CHECK.is("'" + text + "'", Checks.link(x, text), code);
        CHECK.is("place in '" + text + "'", x.fault(), place);
        CHECK.is("counted '" + text + "'", Checks.status(x), "1 0 0");
        CHECK.is("all stays behind '" + text + "'", Checks.all(x).replace("fault " + place, "fault " + faultless), before);
    }

    private static void fine(String text, int classes, int flows) {
        BentShares x = new BentShares();
        CHECK.is("'" + text + "'", Checks.link(x, text), 0);
        CHECK.is("classes of '" + text + "'", x.count(0), classes);
        CHECK.is("flows of '" + text + "'", x.count(1), flows);
        CHECK.is("no fault in '" + text + "'", x.fault(), NONE);
    }

    // ---- promise 1: "No CLASSES."

    private static void promise1_countsNothing() {
        BentShares x = new BentShares();
        for (int what = 0; what < 18; what++) {
            CHECK.is("count(" + what + ")", x.count(what), what == 11 ? NONE : 0);
        }
        CHECK.is("fault", x.fault(), NONE);
    }

    private static void promise1_noClassToAskFor() {
        BentShares x = new BentShares();
        CHECK.noSuch("of", () -> x.of(0, 0));
        CHECK.noSuch("curve", () -> x.curve(0, 1, 0));
        CHECK.noSuch("packet", () -> x.packet(0, 0));
        CHECK.noSuch("due", () -> x.due(0, 2));
        CHECK.noSuch("bound", () -> x.bound(0, 1));
        CHECK.noSuch("then", () -> x.then(0, 0, 0));
        CHECK.noSuch("waits", () -> x.waits(0));
        CHECK.noSuch("longest", () -> x.longest(0, 1));
        CHECK.noSuch("toShare", () -> x.toShare(0, 1, 1));
        CHECK.noSuch("toCap", () -> x.toCap(0, 0, 1));
        CHECK.noSuch("blocked", () -> x.blocked(0, 0));
        CHECK.noSuch("spread", () -> x.spread(0, 0));
        CHECK.noSuch("told", () -> x.told(0, NONE));
        CHECK.noSuch("storms", () -> x.storms(0, 1, 1, 1));
    }

    private static void promise1_noClassToActOn() {
        BentShares x = new BentShares();
        CHECK.refused("come", x, () -> x.come(0, 1));
        CHECK.refused("change", x, () -> x.change(0, 1, 1, 1, 1));
        CHECK.refused("empty", x, () -> x.empty(0));
        CHECK.refused("lift", x, () -> x.lift(0, 2) ? 1 : 0, 0);
        CHECK.refused("stop", x, () -> x.stop(0));
        CHECK.is("note", x.note(0, 0, 0), NONE);
        CHECK.is("undo", x.undo(), NONE);
        CHECK.is("restore", x.restore(), false);
    }

    private static void promise1_theLinkIsThere() {
        BentShares x = new BentShares();
        CHECK.is("spread", x.spread(NONE, 400), 0);
        for (int what = 0; what < 3; what++) {
            CHECK.is("next", x.next(1, what), NONE);
            CHECK.is("years", x.years(1, 60, what), 0);
        }
        CHECK.is("together", x.together(0), 1);
        CHECK.is("first over", x.together(1), NONE);
        CHECK.is("over", x.together(2), 0);
        CHECK.is("to grant", x.toGrant(30, 100), 100);
        CHECK.is("other", x.other(0), 0);
        CHECK.is("the first other", x.other(1), NONE);
        CHECK.is("so without", x.other(2), 1);
        CHECK.is("look", x.look(0), NONE);
        CHECK.is("unlike", x.look(1), 0);
        CHECK.is("units", x.units(100), 100);
    }

    // ---- promise 2

    /** "of each number the highest first": one odd byte at each place in turn. */
    private static void promise2_theHighestByteFirst() {
        for (int place = 0; place < 20; place++) {
            BentShares x = new BentShares();
            int[] n = {BLANKS, BLANKS, BLANKS, BLANKS, BLANKS};
            n[place / 4] ^= 0xff << 24 - 8 * (place % 4);
            x.feed(n[0], n[1], n[2], n[3], n[4]);
            CHECK.is("an odd byte", x.link(20), 1);
            CHECK.is("its place", x.fault(), place);
        }
    }

    private static void promise2_allBitsOfAByteCount() {
        // A byte above 127 is no blank, whatever its lower bits, nor does it spoil the one ahead of it.
        BentShares x = new BentShares();
        x.feed(0x200aa020, BLANKS, BLANKS, BLANKS, BLANKS);
        CHECK.is("160 is no blank", x.link(20), 1);
        CHECK.is("its place", x.fault(), 2);
        x.feed(0x2020208a, BLANKS, BLANKS, BLANKS, BLANKS);
        CHECK.is("138 is no blank", x.link(20), 1);
        CHECK.is("its place", x.fault(), 3);
    }

    /** "how many it has" */
    private static void promise2_700BytesAreTaken() {
        BentShares x = new BentShares();
        for (int i = 1; i <= 35; i++) {
            CHECK.is("feed", x.feed(BLANKS, BLANKS, BLANKS, BLANKS, BLANKS), 20 * i);
            CHECK.is("tape", x.count(14), 20 * i);
        }
    }

    /** "NONE, and none come, if it would have more than 700." */
    private static void promise2_noneComeBehind700() {
        BentShares x = new BentShares();
        String text = " ".repeat(693) + "\nclass;";
        Checks.feed(x, text);
        CHECK.is("refused", x.feed(1, 2, 3, 4, 5), NONE);
        CHECK.is("refused again", x.feed(-1, -1, -1, -1, -1), NONE);
        CHECK.is("tape", x.count(14), 700);
        CHECK.is("no status counts it", Checks.status(x), "0 0 0");
        CHECK.is("the bytes are as they were", x.link(700), 0);
        CHECK.is("one class", x.count(0), 1);
    }

    private static void promise2_anEmptiedTapeTakes700Again() {
        BentShares x = new BentShares();
        for (int times = 0; times < 2; times++) {
            Checks.feed(x, " ".repeat(700));
            CHECK.is("full", x.count(14), 700);
            x.link(times);
            CHECK.is("empty", x.count(14), 0);
        }
    }

    // ---- promise 3: what is read

    /** "The tape's first n bytes" */
    private static void promise3_bytesBehindNDontCount() {
        BentShares x = new BentShares();
        Checks.feed(x, "class;flow 0 1 0 64;");
        CHECK.is("six", x.link(6), 0);
        CHECK.is("a class alone", x.count(0) * 10 + x.count(1), 10);
        Checks.feed(x, "class;flow 0 1 0 64;");
        CHECK.is("a word cut short", x.link(4), 1);
        CHECK.is("at its first byte", x.fault(), 0);
        Checks.feed(x, "class;flow 0 1 0 64;");
        CHECK.is("a clause cut short", x.link(19), 1);
        CHECK.is("at the text's length", x.fault(), 19);
        Checks.feed(x, "class upper 1 1 100;");
        CHECK.is("no byte of the tape behind it ends it", x.link(18), 1);
        CHECK.is("at the text's length, not the tape's", x.fault(), 18);
    }

    private static void promise3_noBytesTellNoClasses() {
        BentShares x = new BentShares();
        CHECK.is("of an empty tape", x.link(0), 0);
        Checks.link(x, "class;flow 0 1 0 1;");
        CHECK.is("of one that is empty again", x.link(0), 0);
        CHECK.is("no classes, no flows", x.count(0) + x.count(1), 0);
        Checks.feed(x, "class;");
        CHECK.is("of one that has bytes", x.link(0), 0);
        CHECK.is("no class", x.count(0), 0);
        CHECK.is("these are gone", x.count(14), 0);
    }

    /** "(it is empty then)" */
    private static void promise3_theTapeIsEmptyThen() {
        BentShares x = new BentShares();
        Checks.feed(x, "class;and more than six bytes");
        x.link(6);
        CHECK.is("behind a text", x.count(14), 0);
        Checks.feed(x, "class");
        x.link(5);
        CHECK.is("behind a fault", x.count(14), 0);
        CHECK.illegal("nothing to read", () -> x.link(1));
    }

    /** "IllegalArgumentException: the tape has not so many, n below 0 (nothing changes)." */
    private static void promise3_notSoMany() {
        BentShares x = Checks.linked("class;flow 0 9 0 1;");
        x.units(5);
        Checks.link(x, "class;;");
        Checks.feed(x, "class;class;class;");
        String before = Checks.all(x);
        int[] wrong = {21, 22, 701, Integer.MAX_VALUE, -1, -20, Integer.MIN_VALUE};
        for (int n : wrong) {
            CHECK.illegal("link(" + n + ")", () -> x.link(n));
            CHECK.is("nothing changes", Checks.all(x), before);
            CHECK.is("nor the fault", x.fault(), 6);
            CHECK.is("nor what is counted", Checks.status(x), "1 0 0");
            CHECK.is("nor the tape", x.count(14), 20);
        }
        CHECK.is("as many as it has", x.link(20), 0);
        CHECK.is("all of these", x.count(0), 3);
    }

    /** "tell all anew (TIME 0): 0 (STATUS stays) .. ACTS, what is NOTED, the image are gone." */
    private static void promise3_allAnew() {
        String text = "class;class in 0 grant 9 9 9 upper 8 8 8;flow 1 5 0 7;flow 1 5 0 64;";
        BentShares x = Checks.linked(text);
        for (int i = 0; i < 25; i++) {
            x.come(1, 3);
        }
        x.units(33);
        x.change(1, 1, 7, 7, 7);
        x.lift(1, 0);
        x.stop(1);
        x.come(0, 1);
        x.note(1, 2, 3);
        x.note(1, 2, -3);
        x.image();
        Checks.link(x, ";");
        CHECK.is("link", Checks.link(x, text), 0);
        CHECK.is("as new", Checks.all(x), Checks.all(Checks.linked(text)));
        CHECK.is("STATUS stays", Checks.status(x), "1 1 1");
        CHECK.is("the image is gone", x.restore(), false);
        CHECK.is("acts are gone", x.undo(), NONE);
    }

    private static void promise3_nothingOfAnotherText() {
        BentShares x = Checks.linked("class share 1 1 1 upper 2 2 2;class grant 3 3 3;flow 1 1 0 64;");
        x.units(1);
        CHECK.is("busy", x.count(3), 63);
        Checks.link(x, "class;class upper 4 4 4 grant 5 5 5 x");
        CHECK.is("link", Checks.link(x, "class;class;"), 0);
        CHECK.is("the first has a share alone", Checks.told(x, 0), "class share 10 0 10;");
        CHECK.is("nor has the second more", Checks.told(x, 1), "class share 10 0 10;");
        CHECK.is("not busy", x.count(3), 0);
        x.come(1, 5);
        CHECK.is("it goes at once", x.waits(1), 0);
    }

    /** "or the FAULT (all else stays, but STATUS)": the image, acts and what is noted too. */
    private static void promise3_aFaultChangesNothingElse() {
        BentShares x = Checks.linked("class upper 1 2 3;flow 0 7 3 5;");
        x.come(0, 9);
        x.image();
        x.note(0, 2, 1);
        x.units(10);
        CHECK.is("fault", Checks.link(x, "class;class;class in 2;"), 3);
        CHECK.is("acts", x.count(12), 2);
        CHECK.is("noted", x.count(13), 1);
        CHECK.is("an act is undone", x.undo(), 1);
        CHECK.is("the image is there", x.restore(), true);
        CHECK.is("classes", x.count(0), 1);
        CHECK.is("STATUS was kept, too", Checks.status(x), "0 0 0");
    }

    // ---- promise 3: tokens

    /** "A TEXT of at most 700 bytes tells all." */
    private static void promise3_aTextOf700Bytes() {
        String clauses = "class upper 100 30 100;".repeat(12) + "flow 11 200 199 64;".repeat(8);
        String text = clauses + " ".repeat(700 - clauses.length() - 1) + "\n";
        fine(text, 12, 8);
        fine(" ".repeat(700 - clauses.length()) + clauses, 12, 8);
        fault(text.substring(0, 699) + ";", 1, 699);
    }

    /** "words (a .. z, the longest row)" */
    private static void promise3_words() {
        fault("classa;", 1, 0);
        fault("clas;", 1, 0);
        fault("aclass;", 1, 0);
        fault("clazz;", 1, 0);
        fault("classz;", 1, 0);
        fault("class;class in0flow;", 1, 15);
        fault("cl ass;", 1, 0);
        fault("classshare 1 1 1;", 1, 0);
        fault("class shareupper 1 1 1;", 1, 6);
        fault("class;classin 0;", 1, 6);
        fine("class;class in0grant1 1 1share2 2 2upper3 3 3;flow1 1 1 1;", 2, 1);
        // Just beside a and z stand two other signs.
        fault("class`;", 1, 5);
        fault("class{;", 1, 5);
        fault("clasS;", 1, 0);
        fault("CLASS;", 1, 0);
    }

    /** Each letter of each word counts, and none more. */
    private static void promise3_lettersOfWords() {
        String[] told = {"class;", "class;class in 0;", "class;flow 0 1 0 1;", "class grant 1 1 1;", "class share 1 1 1;",
            "class upper 1 1 1;"};
        String[] words = {"class", "in", "flow", "grant", "share", "upper"};
        for (int w = 0; w < words.length; w++) {
            int at = told[w].lastIndexOf(words[w]);
            String ahead = told[w].substring(0, at);
            String behind = told[w].substring(at + words[w].length());
            for (int i = 0; i < words[w].length(); i++) {
                String other = words[w].substring(0, i) + "z" + words[w].substring(i + 1);
                fault(ahead + other + behind, 1, at);
            }
            fault(ahead + words[w] + "z" + behind, 1, at);
            fault(ahead + words[w].substring(1) + behind, 1, at);
        }
    }

    /** "NUMBERS (1 to 3 digits)" */
    private static void promise3_numbers() {
        fine("class;flow 000 001 000 001;", 1, 1);
        fine("class;flow0 1 0 1;", 1, 1);
        fault("class;flow 0 1 0 0001;", 2, 17);
        fault("class;flow 0 1 0 1000;", 2, 17);
        fault("class;flow 0 1 0 1a;", 1, 18);
        // Just beside 0 and 9 stand two other signs; nor are there signs ahead of numbers.
        fault("class;flow 0 1 0 /;", 1, 17);
        fault("class;flow 0 1 0 :;", 1, 17);
        fault("class;flow 0 1 0 -1;", 1, 17);
        fault("class;flow 0 1 0 1.;", 1, 18);
        fault("class;flow 0 1 0 4294967297;", 2, 17);
    }

    /** "blanks (32, 10) between them, which count for nothing" */
    private static void promise3_blanks() {
        fine(" \n\n class \n;\n", 1, 0);
        fine("class ;class\nin\n0\n;\n\nflow 1\n1 1 1 ; ", 2, 1);
        int[] others = {0, 9, 11, 12, 13, 31, 33, 127, 128, 160, 255};
        for (int sign : others) {
            fault("class" + (char) sign + ";", 1, 5);
            fault(" " + (char) sign + " ", 1, 1);
        }
    }

    // ---- promise 3: the faults

    /** "1 a TOKEN that can't stand there": each kind of token at each place that is not for it. */
    private static void promise3_fault1_whatCantStand() {
        String[] noClause = {"in", "grant", "share", "upper", "0", "999", "1000", ";", "x"};
        for (String token : noClause) {
            fault(token, 1, 0);
            fault("class;" + token + ";", 1, 6);
        }
        String[] notBehindClass = {"class", "flow", "0", "1000", "x"};
        for (String token : notBehindClass) {
            fault("class " + token, 1, 6);
            fault("class;class in 0 " + token, 1, 17);
            fault("class share 1 1 1 " + token, 1, 18);
        }
        fault("class;class in 0 in 0;", 1, 17);
        fault("class;class share 1 1 1 in 0;", 1, 24);
        String[] noNumber = {"class", "flow", "in", "grant", "share", "upper", ";", "x"};
        for (String token : noNumber) {
            fault("class in " + token, 1, 9);
            fault("class share " + token, 1, 12);
            fault("class share 1 " + token, 1, 14);
            fault("class share 1 1 " + token, 1, 16);
            fault("class;flow " + token, 1, 11);
            fault("class;flow 0 " + token, 1, 13);
            fault("class;flow 0 1 " + token, 1, 15);
            fault("class;flow 0 1 1 " + token, 1, 17);
        }
        String[] noEnd = {"class", "flow", "in", "grant", "share", "upper", "5", "1000", "x"};
        for (String token : noEnd) {
            fault("class;flow 0 1 1 1 " + token, 1, 19);
        }
    }

    /** "or is none (the text's length where it ends too soon)": also behind blanks. */
    private static void promise3_fault1_endsTooSoon() {
        String[] cut = {"class", "class in", "class share", "class share 1", "class share 1 1", "class share 1 1 1", "flow",
            "class;flow 0", "class;flow 0 1", "class;flow 0 1 1", "class;flow 0 1 1 1", "class;class in 0"};
        for (String text : cut) {
            fault(text, 1, text.length());
            fault(text + " \n ", 1, text.length() + 3);
        }
        fault(" ".repeat(695) + "class", 1, 700);
    }

    /** "2 .. a NUMBER of 4 digits or more": where a number can stand; 1 where none can. */
    private static void promise3_fault2_fourDigits() {
        fault("class in 0000;", 2, 9);
        fault("class share 0001 1 1;", 2, 12);
        fault("class share 1 0001 1;", 2, 14);
        fault("class share 1 1 0001;", 2, 16);
        fault("class;flow 0000 1 1 1;", 2, 11);
        fault("class;flow 0 0001 1 1;", 2, 13);
        fault("class;flow 0 1 0001 1;", 2, 15);
        fault("class;flow 0 1 1 0001;", 2, 17);
        fault("class 0001;", 1, 6);
        fault("0001", 1, 0);
    }

    /** "or not as told (CLASS: 0 to 11)" */
    private static void promise3_fault2_notAsTold() {
        fine("class grant 0 0 1 share 100 30 100 upper 0 30 1;flow 0 1 0 1;flow 0 200 199 64;", 1, 2);
        fault("class in 12;", 2, 9);
        fault("class in 999;", 2, 9);
        fault("flow 12 1 0 1;", 2, 5);
        String[] words = {"grant", "share", "upper"};
        for (String word : words) {
            fault("class " + word + " 101 30 100;", 2, 12);
            fault("class " + word + " 100 31 100;", 2, 16);
            fault("class " + word + " 100 30 101;", 2, 19);
            fault("class " + word + " 100 30 0;", 2, 19);
        }
        fault("class;flow 0 0 0 1;", 2, 13);
        fault("class;flow 0 201 0 1;", 2, 13);
        fault("class;flow 0 200 200 1;", 2, 17);
        fault("class;flow 0 200 199 0;", 2, 21);
        fault("class;flow 0 200 199 65;", 2, 21);
    }

    /** "the 13th 'class', the 9th 'flow' (at the word)" */
    private static void promise3_fault2_tooManyClauses() {
        fine("class;".repeat(12) + "flow 11 1 0 1;".repeat(8), 12, 8);
        fault("class;".repeat(13), 2, 72);
        fault("class;".repeat(12) + "class", 2, 72);
        fault("class;".repeat(12) + "class in 99;", 2, 72);
        fault("class;" + "flow 0 1 0 1;".repeat(9), 2, 110);
        fault("class;" + "flow 0 1 0 1;".repeat(8) + "flow", 2, 110);
        // Where no 'class' can stand, the least of the two faults counts.
        fault("class;".repeat(12).substring(0, 71) + " class;", 1, 72);
        fault("class;" + "flow 0 1 0 1;".repeat(7) + "flow 0 1 0 1 flow", 1, 110);
    }

    /** "3 a CLASS that isn't told ahead (the one that is just told, too)" */
    private static void promise3_fault3_notToldAhead() {
        fault("class in 0;", 3, 9);
        fault("class;class in 1;", 3, 15);
        fault("class;class in 2;class;", 3, 15);
        fault("class;class in 11;", 3, 15);
        fault("flow 0 1 0 1;class;", 3, 5);
        fault("class;flow 1 1 0 1;class;", 3, 11);
        fault("class;flow 11 1 0 1;", 3, 11);
        fault("class;".repeat(11) + "class in 11;", 3, 75);
        fine("class;".repeat(11) + "class in 10;flow 11 1 0 1;", 12, 1);
    }

    /** "of 'in' one that has a GRANT, or to which a FLOW goes" */
    private static void promise3_fault3_inALeafForGood() {
        fault("class grant 0 0 1;class in 0;", 3, 27);
        fault("class;class;class share 1 1 1 grant 1 1 1;class;class in 2;", 3, 57);
        fine("class share 1 1 1 upper 1 1 1;class in 0;", 2, 0);
        fault("class;class;flow 1 1 0 1;class in 1;", 3, 34);
        fine("class;class;flow 1 1 0 1;class in 0;", 3, 1);
        fault("class;flow 0 1 1 1;class in 0;", 3, 28);
    }

    /** "of 'flow' one that isn't a LEAF so far" */
    private static void promise3_fault3_flowToNoLeaf() {
        fault("class;class in 0;flow 0 1 0 1;", 3, 22);
        fault("class;class in 0;class in 1;flow 2 1 0 1;flow 1 1 0 1;", 3, 46);
        fine("class;class in 0;class in 0;flow 1 1 0 1;flow 2 1 0 1;", 3, 2);
        fine("class grant 1 1 1;flow 0 1 0 1;", 1, 1);
    }

    /** "5 a curve's word told already in this CLAUSE" */
    private static void promise3_fault5_toldAlready() {
        fault("class grant 1 1 1 grant 1 1 1;", 5, 18);
        fault("class share 1 1 1 share 1 1 1;", 5, 18);
        fault("class upper 1 1 1 upper", 5, 18);
        fault("class grant 1 1 1 share 1 1 1 upper 1 1 1 share 1 1 1;", 5, 42);
        fault("class upper 1 1 1 share 1 1 1 grant 1 1 1 grant;", 5, 42);
        fault("class upper 1 1 1;class upper 1 1 1 share 1 1 1 upper;", 5, 48);
        fine("class grant 1 1 1;class grant 1 1 1;class share 1 1 1;class share 1 1 1;", 4, 0);
        fine("class upper 1 1 1 share 1 1 1 grant 1 1 1;", 1, 0);
    }

    /** "FAULTS, the first along the text .. of one TOKEN the least" */
    private static void promise3_theFirstAndTheLeast() {
        fault("class in 0;x", 3, 9);
        fault("class share 1 1 1 share x", 5, 18);
        fault("class share 101 x", 2, 12);
        fault("class grant 1 1 1;class in 0 grant 101", 3, 27);
        fault("class;class in 12;", 2, 15);
        fault("class;class in 0;flow 12 0 0 0;", 2, 22);
        fault("class;flow 5 0 999 0;", 3, 11);
    }

    // ---- promise 4

    /** "The place of the latest link()'s FAULT; NONE without." */
    private static void promise4_theLatest() {
        BentShares x = new BentShares();
        CHECK.is("none yet", x.fault(), NONE);
        Checks.link(x, ";");
        CHECK.is("the first byte", x.fault(), 0);
        Checks.link(x, "  class");
        CHECK.is("a later one", x.fault(), 7);
        CHECK.illegal("one that throws", () -> x.link(1));
        CHECK.is("stays behind it", x.fault(), 7);
        x.units(1);
        x.undo();
        CHECK.is("stays behind acts", x.fault(), 7);
        Checks.link(x, "");
        CHECK.is("none by an empty text", x.fault(), NONE);
        Checks.link(x, "x");
        Checks.link(x, "class;");
        CHECK.is("none by a text without fault", x.fault(), NONE);
    }

    // ---- promise 34

    /** "how many signs (i NONE), the i-th of them", "also there is none" */
    private static void promise34_signs() {
        BentShares x = Checks.linked("class;class in 0;");
        CHECK.is("how many", x.told(1, NONE), 25);
        CHECK.is("the first", x.told(1, 0), 'c');
        CHECK.is("the last", x.told(1, 24), ';');
        int[] none = {25, 26, 96, 1000, Integer.MAX_VALUE, -2, Integer.MIN_VALUE};
        for (int i : none) {
            CHECK.noSuch("told(1, " + i + ")", () -> x.told(1, i));
        }
        int[] noClass = {2, 12, -1, Integer.MAX_VALUE, Integer.MIN_VALUE};
        for (int cls : noClass) {
            CHECK.noSuch("told(" + cls + ", NONE)", () -> x.told(cls, NONE));
            CHECK.noSuch("told(" + cls + ", 0)", () -> x.told(cls, 0));
        }
    }

    /** "'in' and its CLASS if it is in one" */
    private static void promise34_inIfItIsInOne() {
        BentShares x = Checks.linked("class;".repeat(10) + "class in 9;class in 10;");
        CHECK.is("in the link", Checks.told(x, 9), "class share 10 0 10;");
        CHECK.is("of one digit", Checks.told(x, 10), "class in 9 share 10 0 10;");
        CHECK.is("of two", Checks.told(x, 11), "class in 10 share 10 0 10;");
    }

    /** "as far as it has these ('share' always)" */
    private static void promise34_asFarAsItHasThese() {
        BentShares x = Checks.linked("class upper 0 0 1 share 100 9 10 grant 99 10 100;class upper 1 1 1;class grant 1 1 1;");
        CHECK.is("all", Checks.told(x, 0), "class grant 99 10 100 share 100 9 10 upper 0 0 1;");
        CHECK.is("no grant", Checks.told(x, 1), "class share 10 0 10 upper 1 1 1;");
        CHECK.is("no upper", Checks.told(x, 2), "class grant 1 1 1 share 10 0 10;");
        x.lift(0, 2);
        CHECK.is("lifted", Checks.told(x, 0), "class grant 99 10 100 share 100 9 10;");
        x.change(1, 0, 100, 30, 100);
        CHECK.is("changed", Checks.told(x, 1), "class grant 100 30 100 share 10 0 10 upper 1 1 1;");
        x.undo();
        CHECK.is("undone", Checks.told(x, 1), "class share 10 0 10 upper 1 1 1;");
    }

    /** "with a blank (32) between each two words or numbers, none ahead of ;" */
    private static void promise34_tellsItAgain() {
        String text = "class grant 100 30 100 share 0 0 1 upper 7 8 9;";
        CHECK.is("as it was told", Checks.told(Checks.linked(text.replace(" ", "\n  ")), 0), text);
        CHECK.is("and again", Checks.told(Checks.linked(text), 0), text);
        CHECK.is("numbers without noughts ahead", Checks.told(Checks.linked("class share 010 009 001;"), 0), "class share 10 9 1;");
    }
}
