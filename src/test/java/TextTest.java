/** Promises 1 to 5: a new object, the text, its fault, the army made of it. */
public final class TextTest {
    public static void main(String[] args) {
        newObject();
        write();
        wipe();
        faultOfParts();
        faultOfSlips();
        faultOfMany();
        army();
        Check.end();
    }

    private static void newObject() {
        HearsayMarch x = new HearsayMarch();
        for (int what = 0; what <= 7; what++) {
            Check.due("about(" + what + ") of a new one", x.about(what), 0);
        }
        Check.due("rank(0, 0) of a new one", x.rank(0, 0), HearsayMarch.UNKNOWN);
        Check.due("again(0) of a new one", x.again(0), HearsayMarch.LATE);
        Check.due("seed of a new one", x.seed(4), 0);
    }

    private static void write() {
        HearsayMarch x = new HearsayMarch();
        Check.due("write(0)", x.write(0, 'H'), HearsayMarch.BAD);
        Check.due("write(9)", x.write(9, 'H'), HearsayMarch.BAD);
        Check.due("write(-1)", x.write(-1, 'H'), HearsayMarch.BAD);
        Check.due("write(min)", x.write(Integer.MIN_VALUE, 'H'), HearsayMarch.BAD);
        Check.due("write(max)", x.write(Integer.MAX_VALUE, 'H'), HearsayMarch.BAD);
        Check.due("nothing came", x.about(7), 0);
        // only the lowest byte is taken
        Check.due("write(1)", x.write(1, 0xFFFF_FF00L | 'H'), 1);
        Check.due("H", x.fault(), HearsayMarch.NONE);
        // of the taken ones the highest comes first
        Check.due("write(2)", x.write(2, 'R' << 8 | 'f'), 3);
        Check.due("army()", x.army(), 1);
        Check.due("rank(0, 0)", x.rank(0, 0), 2);
        for (int i = 0; i < 7; i++) {
            Check.due("write(8)", x.write(8, -1L), 11 + 8 * i);
        }
        Check.due("write(6) into 59", x.write(6, 0), HearsayMarch.FULL);
        Check.due("write(9) into 59", x.write(9, 0), HearsayMarch.BAD);
        Check.due("write(5) into 59", x.write(5, 0), 64);
        Check.due("write(1) into 64", x.write(1, 0), HearsayMarch.FULL);
        Check.due("about(7)", x.about(7), 64);
        Check.due("the first byte that is wrong", x.fault(), 3);
        HearsayMarch y = Check.withText("HRpRpS10");
        Check.due("a byte of 177 is no 1", y.write(1, 0x80 | '1'), 9);
        Check.due("its place", y.fault(), 8);
    }

    private static void wipe() {
        HearsayMarch x = Check.withArmy("HRpRd");
        Check.due("wipe()", x.wipe(), 5);
        Check.due("wipe() again", x.wipe(), 0);
        Check.due("the army stays", x.about(0), 2);
        Check.due("fault of nothing", x.fault(), 0);
        Check.due("write after it", x.write(1, 'H'), 1);
        Check.due("H", x.fault(), HearsayMarch.NONE);
    }

    private static void dueFault(String text, int want) {
        HearsayMarch x = Check.withText(text);
        Check.due("fault() of " + text, x.fault(), want);
        Check.due("fault() changes nothing", x.fault(), want);
    }

    private static void faultOfParts() {
        dueFault("", 0);
        dueFault("h", 0);
        dueFault("RpH", 0);
        dueFault("H", HearsayMarch.NONE);
        dueFault("HH", 1);
        dueFault("HR", 2);
        dueFault("HRRp", 2);
        dueFault("HRP", 2);
        dueFault("HRpp", 3);
        dueFault("HRpRdRfRs", HearsayMarch.NONE);
        dueFault("HRpRpRpRpRpRpRp", HearsayMarch.NONE);
        dueFault("HRpRpRpRpRpRpRpR", 15);
        dueFault("HS", 1);
        dueFault("HRpS1011Rp", 3);
    }

    private static void faultOfSlips() {
        dueFault("HRpRpS", 6);
        dueFault("HRpRpS1", 7);
        dueFault("HRpRpS10", 8);
        dueFault("HRpRpS101", 9);
        dueFault("HRpRpS1011", HearsayMarch.NONE);
        dueFault("HRpRpS0", 6);
        dueFault("HRpRpS2011Rp", 6);
        dueFault("HRpRpS/", 6);
        dueFault("HRpRpS:", 6);
        dueFault("HRpRpRpS2011", HearsayMarch.NONE);
        dueFault("HRpRpRpS3011", 8);
        dueFault("HRpRpS15", 7);
        dueFault("HRpRpS1/", 7);
        dueFault("HRpRpS100", 8);
        dueFault("HRpRpS105", 8);
        dueFault("HRpRpS10/", 8);
        dueFault("HRpRpS1010", 9);
        dueFault("HRpRpS101:", 9);
        dueFault("HRpRpS1019", HearsayMarch.NONE);
        dueFault("HRpRpS1411RpS2401", HearsayMarch.NONE);
        dueFault("HRpRpS1401Rx", 11);
    }

    private static void faultOfMany() {
        dueFault("HRpRpS1015S1025", HearsayMarch.NONE);
        dueFault("HRpRpS1015S1026", 14);
        dueFault("HRpRpS1015S101", 13);
        dueFault("HRpRpS1015S1025S10", 17);
        dueFault("HRpRpS1015S1025S11", 18);
        dueFault("HRpRpRpS1015S1025S2019S2021", HearsayMarch.NONE);
        // every other order is taken, though tenths are left
        dueFault("HRpRpS1011S1021S1031S104", 24);
        dueFault("HRpRpS1011S1021S1031S1047", HearsayMarch.NONE);
        dueFault("HRpRpS1011S1021S1031S1041S10", 27);
        dueFault("HRpRpS1121S1131S1141S110", 24);
        dueFault("HRpRpS1401S1411S1421S14", 23);
        String eight = "HRpRpS1011S1021S1031S1041S1101S1121S1131S1141";
        dueFault(eight, HearsayMarch.NONE);
        dueFault(eight + "S1201", HearsayMarch.NONE);
        dueFault(eight + "S1201Rp", HearsayMarch.NONE);
        dueFault(eight + "S1201S", 50);
        dueFault("HRpRpS1015S1025S1105S1125S1205S1215S1305S1315S", 46);
        // its length is set aside: 64 bytes that could still become an army
        String most = "HRpRpRpRpRpRpRpS1011S1021S1031S1041S1101S1121S1131S1141S1201";
        dueFault(most, HearsayMarch.NONE);
        dueFault(most + "S", 60);
        HearsayMarch x = Check.withText("HRpRpS1");
        Check.due("a zero byte", x.write(1, 0), 8);
        Check.due("its fault", x.fault(), 7);
    }

    private static void army() {
        HearsayMarch x = Check.withText("HRpRfRs");
        x.seed(11);
        Check.due("army()", x.army(), 3);
        Check.due("the text stays", x.about(7), 7);
        Check.dueRank(x, 0, 0, -9, -9, 0, 1000, 0, -9);
        Check.dueRank(x, 1, 2, -9, -9, 0, 1000, 0, -9);
        Check.dueRank(x, 2, 3, -9, -9, 0, 1000, 0, -9);
        x.say(1);
        x.minute();
        x.say(3);
        x.minute();
        x.minute();
        x.keep(0);
        x.trace(1, 3, true);
        x.write(1, 0);
        Check.due("army() of a fault", x.army(), HearsayMarch.LATE);
        Check.due("nothing changed: minute", x.about(2), 3);
        Check.due("nothing changed: acts", x.about(5), 5);
        Check.due("nothing changed: kept", x.again(0), 3);
        Check.due("nothing changed: x", x.rank(0, 4), 1002);
        Check.due("nothing changed: y", x.rank(0, 5), 1);
        x.say(1);
        Check.rewrite(x, "HRdRsRpS1011");
        Check.due("a text is no army yet", x.rank(0, 0), 0);
        Check.due("army() anew", x.army(), 3);
        Check.due("minute", x.about(2), 0);
        Check.due("sleepers", x.about(3), 2);
        Check.due("who heard", x.about(4), 0);
        Check.due("acts", x.about(5), 0);
        Check.due("traced stays", x.about(6), 1);
        Check.due("slips", x.about(1), 1);
        Check.due("undo", x.undo(), HearsayMarch.LATE);
        Check.due("again", x.again(0), HearsayMarch.LATE);
        Check.due("the seed stays", x.seed(0), 11);
        Check.dueRank(x, 0, 1, -9, -9, 0, 1000, 0, -9);
        Check.rewrite(x, "H");
        Check.due("army() without ranks", x.army(), 0);
        Check.due("no slips", x.about(1), 0);
        Check.due("no rank", x.rank(0, 0), HearsayMarch.UNKNOWN);
        x.wipe();
        Check.due("army() of nothing", x.army(), HearsayMarch.LATE);
    }
}
