import java.util.function.Supplier;

/** The edges that the document names: the tape, tokens, items and faults; promises 31 to 33. */
public final class EdgesTextsTest {
    private static final String FIVE_OLD = "old;old;old;old;old;";

    public static void main(String[] args) {
        feed();
        wipe();
        fullTape();
        tokens();
        bytesAroundTokens();
        numbers();
        blanks();
        texts();
        tentItems();
        otherItems();
        seventhTent();
        tooEarly();
        firstFault();
        nothingChanges();
        Check.end();
    }

    /** A fault at a place: the answer, an empty tape, no finding. */
    private static void fault(String sentence, String text, int place) {
        GroundTents x = new GroundTents();
        Check.due(sentence + ": '" + text + "'", -1 - place, Check.read(x, text));
        Check.due(sentence + ", THE TAPE is empty: '" + text + "'", 0, x.count(5));
        Check.due(sentence + ", no finding: '" + text + "'", 0, x.status(-1));
    }

    private static void good(String sentence, String text, int items) {
        GroundTents x = new GroundTents();
        Check.due(sentence + ": '" + text + "'", items, Check.read(x, text));
        Check.due(sentence + ", THE TAPE is empty: '" + text + "'", 0, x.count(5));
    }

    private static void feed() {
        Edge.run("31: n 1 to 4: the n lowest bytes, the highest first", "feed(0x7A7A7A64, 1) = 1", "feed(0x7A7A7279, 2) = 3",
            "feed(0x7A203234, 3) = 6", "text() = 1", "feed(0x64727920, 4) = 4", "feed(0x35, 1) = 5", "text() = 1");
        Edge.run("31: the order of four", "feed(0x6F6C6420, 4) = 4", "feed(0x6F6E3132, 4) = 8", "text() = 1", "of(0, 0) = 5",
            "of(0, 1) = 12");
        Edge.run("31: n 0 and 5, nothing comes", "feed(0x35, 0) = BEYOND", "feed(0x35, 5) = BEYOND", "feed(0x35, -1) = BEYOND",
            "count(5) = 0", "status(0) = 3");
        Edge.run("31: bytes are 0 to 255, whatever the number's sign", "feed(-1, 1) = 1", "text() = -1", "feed(-1, 4) = 4",
            "text() = -1", "feed(MIN, 4) = 4", "text() = -1", "feed(0x6F6C64, 3) = 3", "feed(-1, 1) = 4", "text() = -4");
        Edge.run("31: the lowest bytes of a number below 0", "feed(-37012, 2) = 2", "feed(-156, 1) = 3", "text() = 1",
            "of(0, 0) = 5");
    }

    private static void wipe() {
        Edge.run("32: empty, and how many it had", "wipe() = 0", "feed(0x74, 1) = 1", "wipe() = 1", "wipe() = 0",
            "count(5) = 0", "feed(0x65, 1) = 1", "text() = -1");
        Edge.run("32: a full one", Camps.brimming(), "count(5) = 120", "wipe() = 120", "count(5) = 0", "wipe() = 0",
            "feed(0x6F6C64, 3) = 3");
        Edge.run("32: nothing of it is read later", "feed(0x6F6C6420, 4) = 4", "wipe() = 4", "text() = -1", "read(dry 5) = 1",
            "count(1) = 0");
    }

    private static void fullTape() {
        GroundTents x = new GroundTents();
        for (int i = 1; i <= 29; i++) {
            Check.due("31: four more bytes", 4 * i, x.feed(0x20202020, 4));
        }
        Edge.run("31: at most 120 bytes", x, "feed(0, 1) = 117", "feed(0, 4) = FULL", "count(5) = 117", "feed(0, 2) = 119",
            "feed(0, 2) = FULL", "feed(0, 4) = FULL", "count(5) = 119", "feed(0, 1) = 120", "feed(0, 1) = FULL",
            "feed(0, 5) = BEYOND", "feed(0, 0) = BEYOND", "count(5) = 120", "status(1) = 4", "status(0) = 2", "text() = -117");
        Edge.run("31: of what is too much nothing comes", "put(" + " ".repeat(113) + "dry 5) = 118",
            "feed(0x30303030, 4) = FULL", "feed(0x303030, 3) = FULL", "count(5) = 118", "feed(0x3020, 2) = 120",
            "feed(0x35, 1) = FULL", "text() = -118", "put(" + " ".repeat(113) + "dry 5) = 118", "feed(0x303030, 3) = FULL",
            "text() = 1");
        Edge.run("33: as many ITEMS as there can be", "read(" + "dry1;".repeat(23) + "dry1) = 24");
        Edge.run("33: 120 bytes are a TEXT", "read(" + "dry 1;".repeat(19) + "dry 1 ) = 20", "count(5) = 0");
        Edge.run("33: 120 bytes, and it ends too early", "read(" + "dry 1;".repeat(20) + ") = -121",
            "read(" + " ".repeat(120) + ") = -121", "read(" + "a".repeat(120) + ") = -1",
            "read(dry " + "1".repeat(116) + ") = -5", "read(dry " + "0".repeat(115) + "5) = 1");
    }

    private static void tokens() {
        String sentence = "Terms: TOKENS, each as long as can be";
        fault(sentence, "tents", 0);
        fault(sentence, "oldold", 0);
        fault(sentence, "tenton5", 0);
        fault(sentence, "old oon 5", 4);
        fault(sentence, "old on 1 6", 9);
        fault(sentence, "height 12", 9);
        fault(sentence, "height 125", 7);
        fault(sentence, "spring 123", 7);
        fault(sentence, "old on 5worn7felt1234", 17);
        good(sentence, "old on 5worn7felt1 2 3 4;dry5;height1 2", 3);
        good(sentence, "old;old;old", 3);
        String[] near = {"ten", "tent", "stif", "stiff", "sof", "soft", "patche", "patched", "chief", "chiefs", "ol", "old",
            "lace", "laced"};
        for (int i = 0; i < near.length; i += 2) {
            fault("Terms: another WORD, too short", near[i], 0);
            good("Terms: the WORDS of TENTS", near[i + 1], 1);
            fault("Terms: another WORD, too long", near[i + 1] + "s", 0);
            fault("Terms: WORDS (letters a to z), the first letter", near[i + 1] + "a", 0);
            fault("Terms: WORDS (letters a to z), the last letter", near[i + 1] + "z", 0);
            fault("Terms: another WORD, another begin", "x" + near[i + 1].substring(1), 0);
            fault("Terms: another WORD, another end", near[i] + "x", 0);
        }
        fault("Terms: another WORD", "heigh 1 2", 0);
        fault("Terms: another WORD", "heights 1 2", 0);
        fault("Terms: another WORD", "springs 1", 0);
        fault("Terms: another WORD", "sprin 1", 0);
        fault("Terms: another WORD", "dr 1", 0);
        fault("Terms: another WORD", "dryy 1", 0);
        fault("Terms: another WORD", "old o 1", 4);
        fault("Terms: another WORD", "old wor 1", 4);
        fault("Terms: another WORD", "old worns 1", 4);
        fault("Terms: another WORD", "old fel 1 2 3 4", 4);
        fault("Terms: another WORD", "old felts 1 2 3 4", 4);
        fault("Terms: a WORD that stands elsewhere", "on", 0);
        fault("Terms: a WORD that stands elsewhere", "worn 5", 0);
        fault("Terms: a WORD that stands elsewhere", "felt 1 2 3 4", 0);
        fault("Terms: a WORD that stands elsewhere", "old dry 5", 4);
    }

    /** Bytes beside blanks, digits, the sign and letters begin no token; behind one they end it. */
    private static void bytesAroundTokens() {
        int[] strange = {0, 9, 10, 13, 31, 33, 45, 47, 58, 60, 64, 65, 90, 91, 95, 96, 123, 127, 128, 160, 225, 255};
        for (int b : strange) {
            String c = String.valueOf((char) b);
            fault("Terms: a byte that begins no TOKEN, " + b, c, 0);
            fault("Terms: a byte that begins no TOKEN, " + b, "  " + c + "old", 2);
            fault("Terms: a byte that begins no TOKEN, " + b, "old" + c, 3);
            fault("Terms: a byte that begins no TOKEN, " + b, "old on " + c + "5", 7);
            fault("Terms: a byte that begins no TOKEN, " + b, "old on 5" + c, 8);
            fault("Terms: a byte that begins no TOKEN, " + b, "old;" + c, 4);
        }
    }

    private static void numbers() {
        String sentence = "Terms: NUMBERS (digits, 999 at most)";
        String[] great = {"100", "999", "1000", "9999", "2147483648", "4294967296", "4294967301", "18446744073709551616",
            "18446744073709551621", "99999999999999999999999999999999999999999"};
        for (String n : great) {
            fault(sentence, "old on " + n, 7);
            fault(sentence, "old worn " + n, 9);
            fault(sentence, "old felt 1 2 3 " + n, 15);
            fault(sentence, "height 5 " + n, 9);
            fault(sentence, "spring " + n, 7);
        }
        good("Terms: NUMBERS are digits, 0 may stand ahead",
            "old on 015 worn 0099 felt 00 000 0000 099;height 024 0099;spring 024;dry 0000000000024", 4);
        fault("Terms: no SIGN but ;", "old worn -1", 9);
        fault("Terms: no SIGN but ;", "old worn +1", 9);
        fault("Terms: no SIGN but ;", "old worn 1,", 10);
    }

    private static void blanks() {
        good("Terms: blanks may stand between", "   old   on   5   worn   6   felt   1   2   3   4   ;   dry   5   ", 2);
        good("Terms: none need to, but between NUMBERS and between WORDS", "old on5worn6felt1 2 3 4;dry5", 2);
        fault("Terms: blanks end a WORD", "o ld", 0);
        fault("Terms: blanks end a WORD", "old o n 5", 4);
        fault("Terms: blanks end a NUMBER", "dry 1 2", 6);
    }

    private static void texts() {
        fault("Terms: TEXT: ITEM { ; ITEM }: nothing", "", 0);
        fault("Terms: TEXT: ITEM { ; ITEM }: blanks", " ", 1);
        fault("Terms: TEXT: ITEM { ; ITEM }: no ITEM", ";", 0);
        fault("Terms: TEXT: ITEM { ; ITEM }: no first ITEM", ";old", 0);
        fault("Terms: TEXT: ITEM { ; ITEM }: no ITEM between", "old;;old", 4);
        fault("Terms: TEXT: ITEM { ; ITEM }: no last ITEM", "old;", 4);
        fault("Terms: TEXT: ITEM { ; ITEM }: no ;", "old old", 4);
        fault("Terms: TEXT: ITEM { ; ITEM }: no ;", "dry 5 dry 6", 6);
        fault("Terms: TEXT: ITEM { ; ITEM }: a NUMBER", "5", 0);
        good("33: how many ITEMS: one", "dry 0", 1);
        good("33: how many ITEMS", "dry 0;dry 0;dry 0", 3);
        Edge.run("33: item by item, the latest counts", "read(height 5 1;height 5 2;spring 5;dry 5;dry 6;spring 6) = 6",
            "cell(5, 0) = 2", "cell(5, 1) = 0", "cell(6, 1) = 1");
        Edge.run("33: THE TAPE is empty then", "read(dry 5) = 1", "count(5) = 0", "text() = -1", "read(x) = -1", "count(5) = 0",
            "text() = -1", "status(-1) = 0");
        Edge.run("33: TENTS get the next numbers", "tent(6) = 0", "read(soft;old) = 2", "of(1, 0) = 2", "of(2, 0) = 5",
            "tent(1) = 3");
    }

    private static void tentItems() {
        Edge.run("Terms: a PITCH: 0 to 15", "read(old on 0;old on 15) = 2", "of(0, 1) = 0", "of(1, 1) = 15",
            "read(old on 16) = -8", "count(1) = 2");
        Edge.run("Terms: worn and a NUMBER (0 to 99)", "read(old worn 0;old worn 99) = 2", "of(0, 2) = 0", "of(1, 2) = 99",
            "read(old worn 100) = -10", "count(1) = 2");
        Edge.run("Terms: felt and four NUMBERS (0 to 99)", "read(old felt 0 99 0 99) = 1", "of(0, 4) = 0", "of(0, 5) = 99",
            "of(0, 6) = 0", "of(0, 7) = 99", "read(old felt 100 0 0 0) = -10", "read(old felt 0 100 0 0) = -12",
            "read(old felt 0 0 100 0) = -14", "read(old felt 0 0 0 100) = -16", "count(1) = 1");
        Edge.run("Terms: perhaps", "read(laced;laced on 1;laced worn 2;laced felt 3 3 3 3) = 4", "of(0, 1) = -1",
            "of(0, 2) = 0", "of(0, 4) = -1", "of(1, 1) = 1", "of(1, 2) = 0", "of(1, 7) = -1", "of(2, 1) = -1", "of(2, 2) = 2",
            "of(2, 4) = -1", "of(3, 1) = -1", "of(3, 2) = 0", "of(3, 7) = 3");
        Edge.run("Terms: perhaps two of them", "read(laced on 1 worn 2;laced on 3 felt 4 5 6 7;laced worn 8 felt 9 9 9 9) = 3",
            "of(0, 1) = 1", "of(0, 2) = 2", "of(0, 4) = -1", "of(1, 1) = 3", "of(1, 2) = 0", "of(1, 4) = 4", "of(1, 7) = 7",
            "of(2, 1) = -1", "of(2, 2) = 8", "of(2, 7) = 9");
        fault("Terms: on, worn, felt in this order", "old worn 1 on 2", 11);
        fault("Terms: on, worn, felt in this order", "old felt 1 2 3 4 on 2", 17);
        fault("Terms: on, worn, felt in this order", "old felt 1 2 3 4 worn 2", 17);
        fault("Terms: each once", "old on 1 on 1", 9);
        fault("Terms: each once", "old worn 1 worn 1", 11);
        fault("Terms: each once", "old felt 1 2 3 4 felt 1 2 3 4", 17);
        fault("Terms: four NUMBERS, no fewer", "old felt 1 2 3;dry 5", 14);
        fault("Terms: four NUMBERS, no fewer", "old felt;dry 5", 8);
        fault("Terms: four NUMBERS, no more", "old felt 1 2 3 4 5", 17);
        fault("Terms: a NUMBER behind on", "old on worn 5", 7);
        fault("Terms: a NUMBER behind on", "old on;dry 5", 6);
        fault("Terms: a NUMBER behind worn", "old worn felt 1 2 3 4", 9);
        fault("Terms: a NUMBER behind worn", "old worn;dry 5", 8);
        fault("Terms: no NUMBER behind the WORD itself", "old 5", 4);
    }

    private static void otherItems() {
        Edge.run("Terms: height, two NUMBERS (a CELL, 0 to 99)", "read(height 0 0;height 24 99) = 2", "cell(0, 0) = 0",
            "cell(24, 0) = 99", "read(height 25 0) = -8", "read(height 24 100) = -11", "read(height 0 0 0) = -12",
            "cell(24, 0) = 99");
        Edge.run("Terms: spring, a NUMBER (a CELL that has one then)", "read(spring 0;spring 24) = 2", "now(2) = 16777217",
            "read(spring 25) = -8", "now(2) = 16777217", "read(spring 24;spring 24) = 2", "now(2) = 16777217");
        Edge.run("Terms: dry, a NUMBER (a CELL that has none then)", "read(dry 0;dry 24) = 2", "now(2) = 0", "spring(0, 1) = 0",
            "spring(24, 1) = 0", "spring(12, 1) = 0", "read(dry 0;dry 24) = 2", "now(2) = 4096", "read(dry 25) = -5",
            "now(2) = 4096", "status(-1) = 0");
        fault("Terms: height, two NUMBERS", "height;dry 5", 6);
        fault("Terms: height, two NUMBERS", "height 5;dry 5", 8);
        fault("Terms: height, two NUMBERS", "height on 5", 7);
        fault("Terms: spring, one NUMBER", "spring 1 2", 9);
        fault("Terms: spring, one NUMBER", "spring;dry 5", 6);
        fault("Terms: dry, one NUMBER", "dry 1 2", 6);
        fault("Terms: dry, one NUMBER", "dry;dry 5", 3);
    }

    private static void seventhTent() {
        Edge.run("Terms: the WORD of a 7th TENT: its own", "read(" + FIVE_OLD + "old;soft) = -25", "count(1) = 0",
            "read(" + FIVE_OLD + "old) = 6", "count(1) = 6", "read(tent) = -1", "read(dry 5;  laced on 99) = -9",
            "read(dry 5) = 1", "count(1) = 6");
        Edge.run("Terms: the WORD of a 7th TENT, those that are there count", "tent(0) = 0", "read(" + FIVE_OLD + "old) = -21",
            "count(1) = 1", "read(old;old;old;old;old) = 5", "read(old) = -1", "status(-1) = 0");
        for (String word : new String[] {"tent", "stiff", "soft", "patched", "chiefs", "old", "laced"}) {
            Edge.run("Terms: the WORD of a 7th TENT, each kind", Camps.brimming(), "wipe() = 120",
                "read(dry 1;" + word + ") = -7", "count(1) = 6");
        }
        fault("Terms: a FAULT ahead of the 7th TENT", FIVE_OLD + "old on 16;old", 27);
    }

    private static void tooEarly() {
        String sentence = "Terms: how many bytes there are if it ends too early";
        String[] texts = {"", "old on", "old worn", "old felt", "old felt 1", "old felt 1 2", "old felt 1 2 3", "height",
            "height 5", "spring", "dry", "old;", "dry 5;", "old on 5 worn", "old on 5 worn 5 felt 1 2 3"};
        for (String text : texts) {
            fault(sentence, text, text.length());
            fault(sentence + ", blanks count", text + "   ", text.length() + 3);
            fault(sentence + ", blanks count", "  " + text, text.length() + 2);
        }
    }

    private static void firstFault() {
        fault("Terms: the first TOKEN that can't stand there", "dry 25;dry 26", 4);
        fault("Terms: the first TOKEN that can't stand there", "old soft #", 4);
        fault("Terms: the first TOKEN that can't stand there", "# old on 16", 0);
        fault("Terms: the first byte of it, behind blanks", "dry    25", 7);
        fault("Terms: the first byte of it, a long WORD", "dry 5;   springing", 9);
        fault("Terms: the place is counted from 0", "x", 0);
    }

    private static void nothingChanges() {
        String[] faulty = {"", "soft", "dry 24;spring 3;height 5 6;x", "height 5 6;", "dry 24;dry 25", "spring 3;tent on 5"};
        Supplier<GroundTents> wiped = () -> {
            GroundTents x = Camps.full();
            x.wipe();
            return x;
        };
        for (String text : faulty) {
            Edge.alike("33: with a FAULT nothing changes but that THE TAPE is empty: '" + text + "'", wiped, () -> {
                GroundTents x = wiped.get();
                int found = x.status(-1);
                Check.due("33: a FAULT: '" + text + "'", 1, Check.read(x, text) < 0 ? 1 : 0);
                Check.due("33: no finding: '" + text + "'", found, x.status(-1));
                return x;
            });
        }
        Edge.run("33: with a FAULT no TENT is new, and the next one is as new", "read(laced on 5 worn 6 felt 1 2 3 4;x) = -32",
            "count(1) = 0", "tent(0) = 0", "of(0, 0) = 0", "of(0, 1) = -1", "of(0, 2) = 0", "of(0, 4) = -1", "of(0, 7) = -1",
            "read(old on 9 worn 9 felt 9 9 9 9;x) = -30", "read(tent) = 1", "of(1, 0) = 0", "of(1, 1) = -1", "of(1, 2) = 0",
            "of(1, 4) = -1");
    }
}
