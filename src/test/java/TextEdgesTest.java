/** The edges of the text, what an army may be, its fault, and the army made of it: promises 1 to 5. */
public final class TextEdgesTest {
    private static final String SEVEN = "HRpRpRpRpRpRpRp";
    private static final String EIGHT_SLIPS = "S1011S1021S1031S1041S1101S1121S1131S1141";
    private static final String NINE_SLIPS = EIGHT_SLIPS + "S1201";

    public static void main(String[] args) {
        oneToEightBytes();
        lowestBytesHighestFirst();
        bytesAreNotSigned();
        noLongerThan64();
        badAheadOfFull();
        wipeOfEmptyAndFull();
        armyIsHAndParts();
        ranksOfFourKinds();
        sevenRanksAtMost();
        slipToRankToldAhead();
        slipOfFiveOrders();
        slipToUnlikeOrder();
        slipByOneToNineTenths();
        tenTenthsTogether();
        noneToldTwice();
        nineSlipsAtMost();
        faultIsFirstByte();
        faultIsLengthOnlyAtEnd();
        lengthIsSetAside();
        armyOfFaultIsLate();
        armyIsMadeAnew();
        armyKeepsTextTracesSeed();
        armyOfNoRanks();
        Check.end();
    }

    /** Of all 256 bytes only these can come behind the start: at any other is the fault. */
    private static void dueNext(String start, String signs) {
        for (int sign = 0; sign < 256; sign++) {
            HearsayMarch x = Check.withText(start);
            x.write(1, sign);
            boolean can = signs.indexOf((char) sign) >= 0;
            int fault = x.fault();
            String call = "fault() of " + start + " and byte " + sign;
            if (can) {
                Check.due(call + " (NONE or its length)", fault == HearsayMarch.NONE ? 1 : fault - start.length(), 1);
            } else {
                Check.due(call, fault, start.length());
            }
        }
    }

    private static HearsayMarch withBytes(int length) {
        HearsayMarch x = new HearsayMarch();
        for (int i = 1; i <= length; i++) {
            Check.due("write(1, ..)", x.write(1, 'H'), i);
        }
        return x;
    }

    // n bytes (1 .. 8) of v
    private static void oneToEightBytes() {
        for (int n = 1; n <= 8; n++) {
            HearsayMarch x = new HearsayMarch();
            Check.due("write(" + n + ", ..)", x.write(n, 0), n);
            Check.due("bytes", x.about(7), n);
        }
        int[] bad = {0, 9, 10, 16, 64, 65, -1, -8, 256 + 1, 1 << 16, Integer.MAX_VALUE, Integer.MIN_VALUE};
        for (int n : bad) {
            HearsayMarch x = Check.withText("H");
            Check.due("write(" + n + ", ..)", x.write(n, 'R' << 8 | 'p'), HearsayMarch.BAD);
            Check.due("bytes", x.about(7), 1);
            Check.due("nothing came", x.fault(), HearsayMarch.NONE);
        }
    }

    // the lowest n, the highest of these first, come behind THE TEXT
    private static void lowestBytesHighestFirst() {
        String text = "HRsRfRdRp";
        for (int n = 1; n <= 8; n++) {
            HearsayMarch x = Check.withText(text.substring(0, 9 - n));
            long v = 0xA5A5A5A5A5A5A5A5L;
            for (int i = 9 - n; i < 9; i++) {
                v = v << 8 | text.charAt(i);
            }
            Check.due("write(" + n + ", ..)", x.write(n, v), 9);
            Check.due("army()", x.army(), 4);
            for (int k = 0; k < 4; k++) {
                Check.due("kind, " + n + " bytes at once", x.rank(k, 0), 3 - k);
            }
        }
    }

    private static void bytesAreNotSigned() {
        HearsayMarch x = new HearsayMarch();
        x.write(1, -1);
        Check.due("byte 255 alone", x.about(7), 1);
        Check.due("byte 255 alone", x.fault(), 0);
        HearsayMarch y = new HearsayMarch();
        Check.due("a negative v", y.write(8, 0x8000000000000000L | 'H'), 8);
        Check.due("its highest byte is first", y.fault(), 0);
        HearsayMarch z = new HearsayMarch();
        z.write(2, -1L << 16 | 'H' << 8 | 'R');
        Check.due("bits above are not looked at", z.fault(), 2);
    }

    // THE TEXT is bytes (64 at most); FULL: it would be longer than 64 (nothing comes)
    private static void noLongerThan64() {
        for (int n = 1; n <= 8; n++) {
            HearsayMarch x = withBytes(64 - n);
            if (n < 8) {
                Check.due("one byte too many", x.write(n + 1, 0), HearsayMarch.FULL);
                Check.due("nothing came", x.about(7), 64 - n);
            }
            Check.due("as many as there is room for", x.write(n, 0), 64);
            for (int more = 1; more <= 8; more++) {
                Check.due("into a full text", x.write(more, 0), HearsayMarch.FULL);
            }
            Check.due("bytes", x.about(7), 64);
            Check.due("wipe()", x.wipe(), 64);
            Check.due("there is room again", x.write(8, 0), 8);
        }
    }

    private static void badAheadOfFull() {
        HearsayMarch x = withBytes(64);
        int[] bad = {0, 9, -1, Integer.MAX_VALUE, Integer.MIN_VALUE};
        for (int n : bad) {
            Check.due("write(" + n + ", ..) into a full text", x.write(n, 0), HearsayMarch.BAD);
        }
        Check.due("bytes", x.about(7), 64);
    }

    // THE TEXT is empty: how long it was
    private static void wipeOfEmptyAndFull() {
        int[] lengths = {0, 1, 63, 64};
        for (int length : lengths) {
            HearsayMarch x = withBytes(length);
            Check.due("wipe()", x.wipe(), length);
            Check.due("bytes", x.about(7), 0);
            Check.due("wipe() of an empty one", x.wipe(), 0);
            Check.due("fault() of an empty one", x.fault(), 0);
            Check.due("write(1, H)", x.write(1, 'H'), 1);
            Check.due("what was is gone", x.fault(), HearsayMarch.NONE);
        }
        HearsayMarch y = Check.withArmy("HRpRdS1011");
        y.say(1);
        y.wipe();
        Check.due("the army stays", y.about(0), 2);
        Check.due("its slips stay", y.slip(1, 0, 1), 1);
        Check.due("the acts stay", y.about(5), 1);
    }

    // H, then PARTS, none or more
    private static void armyIsHAndParts() {
        dueNext("", "H");
        dueNext("H", "R");
        dueNext("HRp", "R");
        dueNext("HRpRp", "RS");
        dueNext("HRpRpS1235", "RS");
        Check.due("H alone", Check.withText("H").army(), 0);
        Check.due("H and a part", Check.withText("HRp").army(), 1);
        Check.due("no H", Check.withText("Rp").army(), HearsayMarch.LATE);
    }

    // k: p PLAIN, d that DOUBTS, f FOREIGN, s that SLEEPS at first; RANKS numbered as they are told
    private static void ranksOfFourKinds() {
        dueNext("HR", "pdfs");
        dueNext("HRpRpS1235R", "pdfs");
        String signs = "pdfs";
        for (int kind = 0; kind < 4; kind++) {
            HearsayMarch x = Check.withArmy("HRpR" + signs.charAt(kind) + "S1011Rp");
            Check.due("kind of " + signs.charAt(kind), x.rank(1, 0), kind);
            Check.due("kind ahead", x.rank(0, 0), 0);
            Check.due("kind behind", x.rank(2, 0), 0);
            Check.due("who sleeps", x.about(3), kind == 3 ? 2 : 0);
        }
    }

    // n - 1 (7 at most)
    private static void sevenRanksAtMost() {
        dueNext("HRpRpRpRpRpRp", "RS");
        dueNext(SEVEN, "S");
        dueNext(SEVEN + "S1011", "S");
        HearsayMarch x = Check.withArmy(SEVEN);
        Check.due("seven ranks", x.about(0), 7);
        Check.due("the last one", x.rank(6, 0), 0);
        Check.due("none behind", x.rank(7, 0), HearsayMarch.UNKNOWN);
        Check.due("eight ranks", Check.withText(SEVEN + "Rp").army(), HearsayMarch.LATE);
    }

    // on the way to RANK k (told ahead, not 0)
    private static void slipToRankToldAhead() {
        dueNext("HRpRpS", "1");
        dueNext("HRpRpRpS", "12");
        dueNext("HRpRpS1011S", "1");
        dueNext("HRpRpS1011RpS", "12");
        dueNext(SEVEN + "S", "123456");
        Check.due("S ahead of all ranks", Check.withText("HS1011RpRp").fault(), 1);
        Check.due("S behind one rank", Check.withText("HRpS1011Rp").fault(), 3);
    }

    private static void slipOfFiveOrders() {
        dueNext("HRpRpS1", "01234");
        dueNext("HRpRpRpS2", "01234");
    }

    // ORDER u becomes v (unlike)
    private static void slipToUnlikeOrder() {
        for (int u = 0; u < 5; u++) {
            dueNext("HRpRpS1" + u, "01234".replace("" + u, ""));
        }
    }

    // by t tenths (1 .. 9)
    private static void slipByOneToNineTenths() {
        dueNext("HRpRpS101", "123456789");
        for (int t = 1; t <= 9; t++) {
            HearsayMarch x = Check.withArmy("HRpRpS101" + t);
            Check.due("slip(1, 0, 1)", x.slip(1, 0, 1), t);
            Check.due("slip(1, 0, 0)", x.slip(1, 0, 0), 10 - t);
        }
    }

    // all SLIPS of one k and u together 10 at most
    private static void tenTenthsTogether() {
        for (int t = 1; t <= 9; t++) {
            dueNext("HRpRpS101" + t + "S102", "123456789".substring(0, 10 - t));
        }
        dueNext("HRpRpS1014S1023S103", "123");
        dueNext("HRpRpS1014S1023S1032S104", "1");
        // by nine there is one left, by ten none: u can not be told any more
        dueNext("HRpRpS1019S1", "01234");
        dueNext("HRpRpS1019S1021S1", "1234");
        dueNext("HRpRpS1014S1023S1033S1", "1234");
        dueNext("HRpRpS1411S1429S1", "0123");
        // of another k, or another u, they are not counted
        dueNext("HRpRpRpS1015S1025S2", "01234");
        dueNext("HRpRpRpS1015S1025S201", "123456789");
        dueNext("HRpRpS1015S1025S110", "123456789");
        Check.due("ten", Check.withText("HRpRpS1015S1025").army(), 2);
        Check.due("eleven", Check.withText("HRpRpS1015S1026").army(), HearsayMarch.LATE);
    }

    // none told twice
    private static void noneToldTwice() {
        dueNext("HRpRpS1011S10", "234");
        dueNext("HRpRpS1011S1031S10", "24");
        dueNext("HRpRpS1011S1031S1041S10", "2");
        // all four are told: u can not be told any more, though tenths are left
        dueNext("HRpRpS1011S1031S1041S1", "01234");
        dueNext("HRpRpS1011S1031S1041S1021S1", "1234");
        // on another way, or of another order, it is not the same slip
        dueNext("HRpRpRpS1011S20", "1234");
        dueNext("HRpRpS1011S11", "0234");
        Check.due("both ways", Check.withText("HRpRpRpS1011S2011S1101").army(), 3);
        Check.due("twice", Check.withText("HRpRpRpS1011S1011").fault(), 15);
    }

    // 9 SLIPS at most
    private static void nineSlipsAtMost() {
        dueNext("HRpRp" + EIGHT_SLIPS, "RS");
        dueNext("HRpRp" + NINE_SLIPS, "R");
        dueNext(SEVEN + EIGHT_SLIPS, "S");
        dueNext(SEVEN + NINE_SLIPS, "");
        HearsayMarch x = Check.withArmy("HRpRp" + NINE_SLIPS);
        Check.due("nine slips", x.about(1), 9);
        Check.due("ten slips", Check.withText("HRpRp" + NINE_SLIPS + "S1301").army(), HearsayMarch.LATE);
        // nine slips use up four orders and a half: the fifth is open
        dueNext("HRpRpS1015S1025S1105S1125S1205S1215S1305S1315S1", "4");
    }

    // the place (from 0) of the first byte by which THE TEXT can be no ARMY, whatever came behind it
    private static void faultIsFirstByte() {
        String army = "HRpRdS1235RfS2014";
        for (int place = 0; place < army.length(); place++) {
            String spoilt = army.substring(0, place) + "!" + army.substring(place + 1);
            Check.due("fault() of " + spoilt, Check.withText(spoilt).fault(), place);
            Check.due("of two " + spoilt, Check.withText(spoilt + "!").fault(), place);
            Check.due("army() of " + spoilt, Check.withText(spoilt).army(), HearsayMarch.LATE);
        }
        Check.due("behind a whole army", Check.withText(army + "!").fault(), army.length());
    }

    // its length, if it is only not at its end; NONE: none
    private static void faultIsLengthOnlyAtEnd() {
        String army = "HRpRdS1235RfS2014";
        String ends = " 1 3 5 10 12 17 ";
        for (int length = 0; length <= army.length(); length++) {
            HearsayMarch x = Check.withText(army.substring(0, length));
            boolean whole = ends.contains(" " + length + " ");
            Check.due("fault() of its first " + length, x.fault(), whole ? HearsayMarch.NONE : length);
            Check.due("army() of them is late", x.army() == HearsayMarch.LATE ? 1 : 0, whole ? 0 : 1);
        }
    }

    // its length set aside: the longest army has 60 bytes, so a longer text is one by none of its bytes
    private static void lengthIsSetAside() {
        String most = SEVEN + NINE_SLIPS;
        Check.due("bytes of the longest army", most.length(), 60);
        Check.due("fault() of it", Check.withText(most).fault(), HearsayMarch.NONE);
        Check.due("army() of it", Check.withText(most).army(), 7);
        Check.due("one byte less", Check.withText(most.substring(0, 59)).fault(), 59);
        Check.due("one byte more", Check.withText(most + "S").fault(), 60);
        Check.due("64 bytes", Check.withText(most + "S130").fault(), 60);
        Check.due("64 bytes, wrong at 59", Check.withText(most.substring(0, 59) + "0S130").fault(), 59);
        Check.due("64 bytes, wrong at 0", withBytes(64).fault(), 1);
    }

    // LATE: a FAULT
    private static void armyOfFaultIsLate() {
        String[] faulty = {"", "h", "HR", "HRpR", "HRpRpS101", "HRpRpS1010", "HRpX"};
        for (String text : faulty) {
            HearsayMarch x = Check.withArmy("HRsRdS1013");
            x.say(1);
            x.say(1);
            x.minute();
            x.keep(1);
            Check.rewrite(x, text);
            Check.due("army() of " + text, x.army(), HearsayMarch.LATE);
            Check.due("the ranks stay", x.about(0), 2);
            Check.due("the slips stay", x.slip(1, 0, 1), 3);
            Check.due("the kinds stay", x.rank(0, 0), 3);
            Check.dueRank(x, 1, 1, 1, -9, 0, 1000, 0, 1);
            Check.due("the acts stay", x.about(5), 3);
            Check.due("the text stays", x.about(7), text.length());
            Check.due("what was kept stays", x.again(1), 1);
        }
    }

    // THE MINUTE is 0, all do HALT, have heard nothing, are at 0, 0 when THE ARMY is made anew; no ACTS; kept is gone
    private static void armyIsMadeAnew() {
        HearsayMarch x = Check.withArmy("HRpRsRf");
        int[] orders = {1, 2, 3, 3, 1, 4};
        for (int order : orders) {
            x.say(order);
            x.minute();
        }
        x.keep(0);
        x.keep(1);
        x.say(1);
        Check.due("none sleeps", x.about(3), 0);
        Check.due("army() of the same text", x.army(), 3);
        Check.due("the minute", x.about(2), 0);
        Check.due("who sleeps", x.about(3), 2);
        Check.due("who heard", x.about(4), 0);
        Check.due("acts", x.about(5), 0);
        int[] kinds = {0, 3, 2};
        for (int k = 0; k < 3; k++) {
            Check.dueRank(x, k, kinds[k], -9, -9, 0, 1000, 0, -9);
        }
        Check.due("undo()", x.undo(), HearsayMarch.LATE);
        Check.due("again(0)", x.again(0), HearsayMarch.LATE);
        Check.due("again(1)", x.again(1), HearsayMarch.LATE);
        x.minute();
        Check.due("what was said is not told on", x.about(4), 0);
        Check.due("the first act of it", x.undo(), 0);
        Check.rewrite(x, "HRpRpRpS2011");
        x.army();
        Check.due("slips of it", x.slip(2, 0, 1), 1);
        Check.rewrite(x, "HRpRpRpS1011");
        x.army();
        Check.due("the slips of before are gone", x.slip(2, 0, 1), 0);
        Check.due("one slip", x.about(1), 1);
    }

    // THE TEXT itself stays; TRACED, THE SEED stay
    private static void armyKeepsTextTracesSeed() {
        HearsayMarch x = Check.withArmy("HRpRp");
        x.seed(-77);
        x.trace(1, 3, true);
        x.trace(0, 2, false);
        Check.due("army() again", x.army(), 2);
        Check.due("the text", x.about(7), 5);
        Check.due("more comes behind it", x.write(2, 'R' << 8 | 'd'), 7);
        Check.due("army() of it", x.army(), 3);
        Check.due("traced", x.about(6), 2);
        Check.due("and looked at", x.fits(), 1);
        Check.due("the seed", x.seed(0), -77);
    }

    private static void armyOfNoRanks() {
        HearsayMarch x = Check.withArmy("HRpRsS1011");
        x.say(1);
        Check.rewrite(x, "H");
        Check.due("army()", x.army(), 0);
        for (int what = 0; what <= 6; what++) {
            Check.due("about(" + what + ")", x.about(what), 0);
        }
        Check.due("rank(0, 0)", x.rank(0, 0), HearsayMarch.UNKNOWN);
        Check.due("slip(0, 0, 0)", x.slip(0, 0, 0), HearsayMarch.UNKNOWN);
        Check.due("say(0)", x.say(0), HearsayMarch.LATE);
        Check.due("bugle()", x.bugle(), 0);
        Check.due("minute()", x.minute(), 1);
    }
}
