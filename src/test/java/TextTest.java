/** Promises 2 to 4 at their bounds: each NUMBER of each ITEM, each byte at each place, full and cut texts. */
public final class TextTest {
    private static final Due DUE = new Due("TextTest");
    private static final String[] WORDS = {
        "wall", "glass", "curtain", "rotten", "beam", "rain", "sun", "view", "noise", "down", "hands"};
    private static final int[] LEAST = {0, 0, 0, 0, 0, 0, 0, 0, 0, 0, 1};
    private static final int[] MOST = {8, 8, 8, 8, 7, 7, 7, 7, 7, 4, 9};

    public static void main(String[] args) {
        firstNumbers();
        secondNumbers();
        numbersThatAreNone();
        bytesAlone();
        bytesAtTheEnds();
        bytesBehindAWord();
        bytesForANumber();
        bytesBehindANumber();
        bytesForTheSemicolon();
        wordsNearlySpelled();
        cutOffAnywhere();
        fullTexts();
        fullTextsAtFault();
        theFirstFaultCounts();
        aFaultAheadOfTheEnd();
        takenSlots();
        fourOfASort();
        onceEach();
        onceInEachText();
        faultyItemsAreForgotten();
        textsThatGoOn();
        refusedBytesStayOut();
        typedBytes();
        roundTheBed();
        beamsRoundTheBed();
        unionOfRainAndSun();
        DUE.close();
    }

    private static void house(int due, String text) {
        BedHouse x = new BedHouse();
        DUE.is("house of '" + text + "'", due, Due.tell(x, text));
        DUE.is("bytes behind house of '" + text + "'", due < 0 ? text.length() : 0, x.count(4));
    }

    private static void fault(int place, String text) {
        house(-10 - place, text);
    }

    private static boolean hasTwoNumbers(int word) {
        return word >= 4 && word <= 6;
    }

    private static void firstNumbers() {
        for (int word = 0; word < WORDS.length; word++) {
            for (int number = 0; number <= 120; number++) {
                boolean may = number >= LEAST[word] && number <= MOST[word];
                String text = WORDS[word] + " " + number + (hasTwoNumbers(word) ? " 1;" : ";");
                house(may ? 1 : -10 - WORDS[word].length() - 1, text);
            }
        }
    }

    private static void secondNumbers() {
        for (int word = 4; word <= 6; word++) {
            for (int number = 0; number <= 120; number++) {
                int due = number >= 1 && number <= 8 ? 1 : -10 - WORDS[word].length() - 3;
                house(due, WORDS[word] + " 0 " + number + ";");
                house(due, WORDS[word] + " 7 " + number + ";");
            }
        }
    }

    private static void numbersThatAreNone() {
        String[] numbers = {"00", "01", "02", "08", "09", "001", "100", "101", "256", "257", "1000", "65537",
            "2147483647", "2147483648", "4294967297", "9223372036854775807", "18446744073709551617",
            "340282366920938463463374607431768211457"};
        for (int word = 0; word < WORDS.length; word++) {
            for (String number : numbers) {
                fault(WORDS[word].length() + 1, WORDS[word] + " " + number + (hasTwoNumbers(word) ? " 1;" : ";"));
                if (hasTwoNumbers(word)) {
                    fault(WORDS[word].length() + 3, WORDS[word] + " 1 " + number + ";");
                }
            }
        }
        fault(5, "wall " + "1".repeat(195));
        fault(4, "wall" + "0".repeat(196));
    }

    // ---- each of the 256 bytes.

    private static boolean isLetter(char sign) {
        return "abcdefghijklmnopqrstuvwxyz".indexOf(sign) >= 0;
    }

    private static boolean isDigit(char sign) {
        return "0123456789".indexOf(sign) >= 0;
    }

    private static void bytesAlone() {
        for (char sign = 0; sign < 256; sign++) {
            house(sign == ' ' ? 0 : -10, "" + sign);
            house(sign == ' ' ? 0 : -12, "  " + sign + " ");
        }
    }

    private static void bytesAtTheEnds() {
        for (char sign = 0; sign < 256; sign++) {
            house(sign == ' ' ? 1 : -10, sign + "sun 0 1;");
            house(sign == ' ' ? 1 : -18, "sun 0 1;" + sign);
            house(sign == ' ' ? 2 : -18, "sun 0 1;" + sign + "wall 1;");
        }
    }

    private static void bytesBehindAWord() {
        for (char sign = 0; sign < 256; sign++) {
            // A letter makes it another word, a digit a number above 9, or one with a 0 ahead.
            int due = sign == ' ' ? 1 : isLetter(sign) ? -10 : -14;
            house(due, "wall" + sign + "1;");
        }
    }

    private static void bytesForANumber() {
        for (char sign = 0; sign < 256; sign++) {
            int due = sign >= '0' && sign <= '8' ? 1 : sign == ' ' ? -16 : -15;
            house(due, "wall " + sign + ";");
        }
    }

    private static void bytesBehindANumber() {
        for (char sign = 0; sign < 256; sign++) {
            int due = sign == ' ' ? 1 : isDigit(sign) ? -15 : sign == ';' ? -17 : -16;
            house(due, "wall 1" + sign + ";");
        }
    }

    private static void bytesForTheSemicolon() {
        for (char sign = 0; sign < 256; sign++) {
            int due = sign == ';' ? 1 : sign == ' ' ? -17 : isDigit(sign) ? -15 : -16;
            house(due, "wall 1" + sign);
        }
    }

    // ---- words and texts as a whole.

    private static void wordsNearlySpelled() {
        for (String word : WORDS) {
            for (int end = 1; end < word.length(); end++) {
                fault(0, word.substring(0, end) + " 1 1;");
                fault(0, word.substring(end) + " 1 1;");
            }
            for (char letter = 'a'; letter <= 'z'; letter++) {
                fault(0, word + letter + " 1 1;");
                fault(0, letter + word + " 1 1;");
                for (int at = 0; at < word.length(); at++) {
                    if (word.charAt(at) != letter) {
                        fault(1, " " + word.substring(0, at) + letter + word.substring(at + 1) + " 1 1;");
                    }
                }
            }
            fault(0, word + word + " 1 1;");
            fault(0, (char) (word.charAt(0) - 32) + word.substring(1) + " 1 1;");
        }
    }

    private static void cutOffAnywhere() {
        String text = " sun 0 8 ;wall 3; ";
        int[] dues = {0, 0, -11, -11, -14, -15, -16, -17, -18, -19, 1, -20, -20, -20, -24, -25, -26, 2, 2};
        for (int length = 0; length < dues.length; length++) {
            house(dues[length], text.substring(0, length));
        }
    }

    private static void fullTexts() {
        house(25, "sun 1 1;".repeat(25));
        house(28, "sun1 1;".repeat(28) + "    ");
        house(1, "wall 8" + " ".repeat(193) + ";");
        house(1, " ".repeat(193) + "wall 8;");
        house(0, " ".repeat(200));
    }

    private static void fullTextsAtFault() {
        fault(199, "sun 1 1;".repeat(24) + "sun 1 1x");
        fault(199, " ".repeat(199) + "w");
        fault(199, "sun 1 1;".repeat(24) + "       ;");
        fault(200, "sun 1 1;".repeat(24) + "sun 1 1 ");
        fault(200, "sun 1 1;".repeat(24) + "     sun");
        fault(192, "sun 1 1;".repeat(24) + "sunshine");
        fault(0, "w".repeat(200));
        fault(0, ";".repeat(200));
    }

    private static void theFirstFaultCounts() {
        fault(5, "wall 9;view 8;");
        fault(5, "wall wall 100;");
        fault(5, "wall 100 wall;");
        fault(5, "wall ;wall 9;");
        fault(7, "wall 1;;#");
        fault(0, "#wall 9;");
        fault(7, "wall 1;wal 1;wall 1;");
        fault(12, "wall 1;wall 1;wal 1;");
        fault(5, "beam 8 9;");
        fault(7, "beam 7 9");
        fault(5, "view 8");
        fault(6, "hands 0 0;");
        fault(7, "wall 1 ?");
    }

    private static void aFaultAheadOfTheEnd() {
        // What can't stand there is at fault even if the text ends too early behind it.
        fault(28, "wall 8;wall 8;wall 8;wall 8;wall");
        fault(28, "wall 8;wall 8;wall 8;wall 8;curtain 1");
        fault(18, "beam 0 1;beam 0 1;beam");
        fault(7, "view 1;view");
        fault(8, "noise 1;noise");
        fault(7, "down 1;down");
        fault(8, "hands 1;hands ");
        fault(12, "wall 1;wall 1");
        fault(5, "wall 9");
        fault(7, "beam 0 0 ");
        fault(6, "hands 10");
    }

    private static void takenSlots() {
        for (int k = 0; k < 8; k++) {
            fault(22, "wall " + k + ";glass 8;rotten " + k + ";");
            for (int other = 0; other < 8; other++) {
                if (other != k) {
                    house(2, "wall " + k + ";wall " + other + ";");
                }
            }
        }
        house(4, "wall 8;glass 8;curtain 8;rotten 8;");
        fault(26, "wall 0;wall 1;wall 2;wall 0;");
        fault(26, "wall 0;wall 1;wall 2;wall 2;");
    }

    private static void fourOfASort() {
        for (int sort = 0; sort < 4; sort++) {
            BedHouse x = new BedHouse();
            String word = WORDS[sort];
            DUE.is("four of " + word, 4, Due.tell(x, word + " 7;" + word + " 8;" + word + " 0;" + word + " 4;"));
            int[] places = {7, 8, 0, 4};
            for (int p = 0; p < 4; p++) {
                DUE.is("sort of " + word + " " + p, sort, x.panel(p, 0));
                DUE.is("place of " + word + " " + p, places[p], x.panel(p, 1));
            }
            String most = (word + " 8;").repeat(4);
            fault(most.length(), most + word + " 8;");
            // What isn't a PANEL may stand behind the fourth.
            house(6, most + "beam 0 1;sun 0 1;");
        }
    }

    private static void onceEach() {
        for (int word = 7; word <= 10; word++) {
            for (int number = LEAST[word]; number <= MOST[word]; number++) {
                for (int again = LEAST[word]; again <= MOST[word]; again++) {
                    String first = WORDS[word] + " " + number + ";rain 0 1;";
                    fault(first.length(), first + WORDS[word] + " " + again + ";");
                }
            }
        }
        house(4, "view 0;noise 0;down 0;hands 1;");
        house(2, "beam 3 2;beam 3 2;");
        fault(25, "beam 3 2;wall 1;beam 3 2;beam 3 2;");
    }

    private static void onceInEachText() {
        BedHouse x = new BedHouse();
        String text = "view 0;noise 0;down 3;hands 2;beam 0 1;beam 1 1;wall 0;wall 1;wall 2;wall 3;";
        for (int i = 0; i < 3; i++) {
            DUE.is("text " + i, 10, Due.tell(x, text));
        }
        DUE.is("panels", 4, x.count(0));
        DUE.is("beams", 2, x.count(1));
    }

    private static void faultyItemsAreForgotten() {
        BedHouse x = new BedHouse();
        String items = "view 1;noise 2;down 4;hands 9;beam 0 1;beam 1 1;wall 0;wall 1;wall 2;wall 3;sun 0 8;rain 0 8;";
        DUE.is("a fault behind all items", -10 - items.length(), Due.tell(x, items + "wall 4;"));
        DUE.is("view", -9, x.told(0));
        DUE.is("noise", -9, x.told(1));
        DUE.is("down", 3, x.told(2));
        DUE.is("hands", 2, x.told(3));
        DUE.is("panels", 0, x.count(0));
        DUE.is("beams", 0, x.count(1));
        DUE.is("rain", 0, x.slot(3, 1));
        DUE.is("sun", 0, x.slot(3, 2));
        DUE.is("lit", 0, x.lit(3));
        DUE.is("clear", items.length() + 7, x.clear());
        DUE.is("all items without the fault", 12, Due.tell(x, items));
        DUE.is("a fault at once", -10, Due.tell(x, "wal 1;"));
        DUE.is("view stays", 1, x.told(0));
        DUE.is("panels stay", 4, x.count(0));
        DUE.is("rain stays", 1, x.slot(3, 1));
        DUE.is("clear", 6, x.clear());
        DUE.is("no items", 0, x.house());
        DUE.is("view as at first", -9, x.told(0));
        DUE.is("rain as at first", 0, x.slot(3, 1));
        DUE.is("sun as at first", 0, x.slot(3, 2));
    }

    private static void textsThatGoOn() {
        BedHouse x = new BedHouse();
        DUE.is("a word cut off", -10, Due.tell(x, "wa"));
        DUE.is("a number cut off", -16, Due.tell(x, "ll 3"));
        DUE.is("a blank", -17, Due.tell(x, " "));
        DUE.is("the end", 1, Due.tell(x, ";"));
        DUE.is("place", 3, x.panel(0, 1));
        Due.write(x, "wall 5;");
        DUE.is("clear", 7, x.clear());
        DUE.is("a text behind a cleared one", 1, Due.tell(x, "rotten 6;"));
        DUE.is("sort", 3, x.panel(0, 0));
        DUE.is("a shorter text behind a longer one", -14, Due.tell(x, "wall"));
        DUE.is("its bytes", 4, x.clear());
    }

    private static void refusedBytesStayOut() {
        BedHouse x = new BedHouse();
        String text = "sun 1 1;".repeat(24) + "sun 1 1";
        DUE.is("199 bytes", 199, Due.write(x, text));
        DUE.is("2 more", -3, x.type(';' << 8 | 'x', 2));
        DUE.is("8 more", -3, x.type(';', 8));
        DUE.is("0 more", -1, x.type(';', 0));
        DUE.is("9 more", -1, x.type(';', 9));
        DUE.is("still 199", 199, x.count(4));
        DUE.is("still cut off", -10 - 199, x.house());
        DUE.is("1 more", 200, x.type(';', 1));
        for (int n = 1; n <= 8; n++) {
            DUE.is(n + " more than 200", -3, x.type(';', n));
        }
        DUE.is("items", 25, x.house());
        DUE.is("room again", 8, x.type(0x2020202020202020L, 8));
        DUE.is("clear 8", 8, x.clear());
        Due.write(x, " ".repeat(200));
        DUE.is("clear 200", 200, x.clear());
        DUE.is("room again", 8, x.type(0x2020202020202020L, 8));
        for (int n = 1; n <= 8; n++) {
            BedHouse y = new BedHouse();
            Due.write(y, " ".repeat(200 - n));
            DUE.is("one too many by " + (n + 1), n == 8 ? -1 : -3, y.type(0x2020202020202020L, n + 1));
            DUE.is("just full by " + n, 200, y.type(0x2020202020202020L, n));
        }
    }

    private static void typedBytes() {
        // Of "wall1;" in the lowest 6 bytes, whatever stands above them.
        long six = 0x77616c6c313bL;
        long[] above = {0, 1L << 48, 1L << 63, 0x7f20L << 48, 0xffffL << 48, 0x3b3bL << 48};
        for (long high : above) {
            BedHouse x = new BedHouse();
            DUE.is("type 6 below " + high, 6, x.type(high | six, 6));
            DUE.is("house of 6 below " + high, 1, x.house());
        }
        BedHouse x = new BedHouse();
        DUE.is("8 with blanks ahead", 8, x.type(0x2020L << 48 | six, 8));
        DUE.is("house of 8", 1, x.house());
        DUE.is("8 with bytes 0 ahead", 8, x.type(six, 8));
        DUE.is("a byte 0 begins no token", -10, x.house());
        x.clear();
        DUE.is("the highest bit", 8, x.type(Long.MIN_VALUE, 8));
        DUE.is("a byte 128 begins no token", -10, x.house());
        x.clear();
        DUE.is("least, 1 byte of it", 1, x.type(Long.MIN_VALUE | ' ', 1));
        DUE.is("a blank", 0, x.house());
        for (int n = 1; n <= 8; n++) {
            BedHouse y = new BedHouse();
            DUE.is("n " + n, n, y.type(0x2020202020202020L, n));
            DUE.is("twice n " + n, 2 * n, y.type(0x2020202020202020L, n));
        }
    }

    private static void roundTheBed() {
        for (int from = 0; from < 8; from++) {
            for (int size = 1; size <= 8; size++) {
                BedHouse x = Due.told("rain " + from + " " + size + ";");
                BedHouse y = Due.told("sun " + from + " " + size + ";");
                for (int k = 0; k < 8; k++) {
                    int due = (k - from + 8) % 8 < size ? 1 : 0;
                    String which = " from " + from + " over " + size + " on " + k;
                    DUE.is("rain" + which, due, x.slot(k, 1));
                    DUE.is("no sun" + which, 0, x.slot(k, 2));
                    DUE.is("sun" + which, due, y.slot(k, 2));
                    DUE.is("no rain" + which, 0, y.slot(k, 1));
                    DUE.is("lit" + which, due, y.lit(k));
                }
                DUE.is("leaks", size, x.now(5));
                DUE.is("worth of rain", -2 * size, x.now(3));
                DUE.is("worth of sun", 3 * size, y.now(3));
            }
        }
    }

    private static void beamsRoundTheBed() {
        for (int k = 0; k < 8; k++) {
            for (int from = 0; from < 8; from++) {
                for (int size = 1; size <= 8; size++) {
                    int due = (k - from + 8) % 8 < size ? 1 : 0;
                    String beam = "beam " + from + " " + size + ";";
                    BedHouse x = Due.told("wall " + k + ";" + beam);
                    DUE.is("wall in " + k + ", " + beam, due, x.beam(0));
                    DUE.is("lawful: wall in " + k + ", " + beam, due, x.now(4));
                    BedHouse y = Due.told("beam " + k + " 1;" + beam + "wall " + k + ";");
                    DUE.is("second: wall in " + k + ", " + beam, due, y.beam(1));
                    DUE.is("both lawful: wall in " + k + ", " + beam, due, y.now(4));
                }
            }
        }
    }

    private static void unionOfRainAndSun() {
        BedHouse x = Due.told("rain 7 2;sun 0 1;sun 4 2;rain 3 1;sun 0 1;rain 3 1;");
        String rain = "10010001";
        String sun = "10001100";
        for (int k = 0; k < 8; k++) {
            DUE.is("rain on " + k, rain.charAt(k) - '0', x.slot(k, 1));
            DUE.is("sun on " + k, sun.charAt(k) - '0', x.slot(k, 2));
        }
    }
}
