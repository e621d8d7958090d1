/** The tape and the text of a drawing (terms I, promises 1 to 5): each sentence at its bounds. */
public final class TextBoundsTest {
    private static final Due due = new Due();

    /** Twenty bytes, so that the word of a line behind "HEAD;" stands at 21. */
    private static final String HEAD = "sheet size 20 join 1";

    private static PenTrails right(String text, int strokes) {
        PenTrails x = new PenTrails();
        due.is("sheet of '" + text + "'", x, Due.sheet(x, text), strokes, 0);
        due.is("fault() of '" + text + "'", x.fault(), 0);
        due.is("where() of '" + text + "'", x.where(), -1);
        return x;
    }

    private static void wrong(String text, int fault, int where) {
        PenTrails x = new PenTrails();
        due.is("sheet of '" + text + "'", x, Due.sheet(x, text), -1, 4);
        due.is("fault() of '" + text + "'", x.fault(), fault);
        due.is("where() of '" + text + "'", x.where(), where);
        due.is("about(0) of '" + text + "'", x, x.about(0), -1, 1);
    }

    private static String padded(String front, String back) {
        return front + " ".repeat(700 - front.length() - back.length()) + back;
    }

    private static void tape() {
        due.says(0, "I. THE TEXT of a DRAWING (THE TAPE has 700 bytes;");
        due.is("join by the last of 700 bytes", right(padded("sheet size 20 join", "17"), 0).about(1), 17);
        wrong(padded("sheet size 20 join", "1x"), 1, 699);
        wrong(padded("sheet size 20 join 1;", ";"), 1, 699);
        wrong(padded("sheet size 20 join 1;", " "), 1, 700);
        PenTrails x = new PenTrails();
        Due.feed(x, padded("sheet size 20 join", "17"));
        due.is("a feed() beyond", x.feed(0x78787878, 0x78787878, 0x78787878, 0x78787878, 0x78787878), -1);
        due.is("sheet(700) behind it", x, x.sheet(700), 0, 0);
        due.is("about(1) behind it", x.about(1), 17);
    }

    private static boolean isLetter(int sign) {
        return sign >= 'a' && sign <= 'z';
    }

    private static boolean isDigit(int sign) {
        return sign >= '0' && sign <= '9';
    }

    private static void blanks() {
        due.says(0, "blanks, 32, part TOKENS and mean nothing else;");
        PenTrails wide = right("   sheet   size  20   join   1   ;  stroke  1  2  3  4   ;   home  5  6  ;  pace  7  8   ", 1);
        PenTrails close = right("sheet size 20 join 1;stroke 1 2 3 4;home 5 6;pace 7 8", 1);
        due.same("blanks", Due.told(close), Due.told(wide));
        wrong("she et size 20 join 1", 1, 0);
        wrong("sheet size 2 0 join 1", 1, 13);
        wrong(HEAD + ";home 12", 1, 28);
        due.is("about(3) of 1 2", right(HEAD + ";home 1 2", 0).about(3), 1);
        due.is("about(3) of 12 2", right(HEAD + ";home 12 2", 0).about(3), 12);
        for (int sign = 0; sign <= 255; sign++) {
            String text = HEAD + (char) sign + ";home 1 2";
            if (sign == ' ' || isDigit(sign)) {
                right(text, 0);
            } else {
                wrong(text, 1, sign == ';' ? 21 : 20);
            }
        }
    }

    private static void words() {
        due.says(0, "TOKENS: WORDS of 1 to 6 small letters that stand together,");
        right(HEAD + ";stroke 1 2 3 4", 1);
        wrong(HEAD + ";strokes 1 2 3 4", 1, 21);
        wrong(HEAD + ";sstroke 1 2 3 4", 1, 21);
        wrong(HEAD + ";strok 1 2 3 4", 1, 21);
        wrong(HEAD + ";strokehome 1 2", 1, 21);
        wrong(HEAD + ";homehome 1 2", 1, 21);
        wrong(HEAD + ";home 1 1" + "home".repeat(100), 1, 29);
        wrong(HEAD + ";h 1 1", 1, 21);
        wrong("s", 1, 0);
        wrong("sheetsize 20 join 1", 1, 0);
        wrong("sheet sizejoin 20 1", 1, 6);
        wrong("sheet sizes 20 join 1", 1, 6);
        wrong("sheet size 20 joint 1", 1, 14);
        // Each letter of each word counts.
        for (int at = 0; at < LONG.length(); at++) {
            if (isLetter(LONG.charAt(at))) {
                int word = at;
                while (word > 0 && isLetter(LONG.charAt(word - 1))) {
                    word--;
                }
                wrong(LONG.substring(0, at) + "x" + LONG.substring(at + 1), 1, word);
            }
        }
        for (int sign = 0; sign <= 255; sign++) {
            // A letter makes a word of five; a digit a whole of two; anything else begins no token or a wrong one.
            String text = HEAD + ";pace" + (char) sign + "1 1";
            if (sign == ' ' || sign == '0') {
                right(text, 0);
            } else if (isDigit(sign)) {
                wrong(text, 2, 25);
            } else {
                wrong(text, 1, isLetter(sign) ? 21 : 25);
            }
        }
    }

    private static void wholes() {
        due.says(0, "WHOLES of 1 to 3 digits that do,");
        due.is("about(1) of 7", right("sheet size 020 join 7", 0).about(1), 7);
        due.is("about(1) of 07", right("sheet size 20 join 07", 0).about(1), 7);
        due.is("about(1) of 007", right("sheet size 20 join 007", 0).about(1), 7);
        wrong("sheet size 20 join 0007", 1, 19);
        due.is("about(1) of 000", right("sheet size 20 join 000", 0).about(1), 0);
        wrong("sheet size 20 join 0000", 1, 19);
        wrong("sheet size 999 join 1", 2, 11);
        wrong("sheet size 1000 join 1", 1, 11);
        wrong("sheet size 0001 join 1", 1, 11);
        wrong("sheet size " + "9".repeat(600) + " join 1", 1, 11);
        wrong(HEAD + ";stroke 1 2 3 4294967300", 1, 34);
        for (int sign = 0; sign <= 255; sign++) {
            String text = HEAD + ";home 1" + (char) sign + "2";
            if (sign == ' ') {
                right(text, 0);
            } else {
                wrong(text, isDigit(sign) ? 2 : 1, isDigit(sign) ? 26 : 27);
            }
        }
        for (int digit = 0; digit <= 9; digit++) {
            due.is("home by each digit", right(HEAD + ";home " + digit + " 1" + digit, 0).about(3), digit);
            due.is("home by each digit", right(HEAD + ";home " + digit + " 1" + digit, 0).about(4), 10 + digit);
        }
        // Tokens of different kinds part one another.
        right("sheet size20join1;stroke0 0 0 1;home0 0;pace9 9", 1);
    }

    private static void lines() {
        due.says(0, "single ones of ;): LINE {; LINE}.");
        right(HEAD, 0);
        right(HEAD + ";home 1 1", 0);
        right(HEAD + ";home 1 1;pace 1 1;stroke 0 0 1 1", 1);
        wrong(HEAD + " home 1 1", 1, 21);
        wrong(HEAD + ";", 1, 21);
        wrong(HEAD + ";  ", 1, 23);
        wrong(HEAD + ";;home 1 1", 1, 21);
        wrong(HEAD + "; ;home 1 1", 1, 22);
        wrong(";" + HEAD, 1, 0);
        wrong(HEAD + ";home 1 1;", 1, 30);
        wrong(";", 1, 0);
    }

    private static void sheetLine() {
        due.says(0, "LINE, one of: sheet size WHOLE join WHOLE (SIZE, 1 .. 200; JOIN, 0 .. 50), ahead of all others");
        wrong("sheet size 0 join 1", 2, 11);
        due.is("about(0)", right("sheet size 1 join 1", 0).about(0), 1);
        due.is("about(0)", right("sheet size 200 join 1", 0).about(0), 200);
        wrong("sheet size 201 join 1", 2, 11);
        due.is("about(1)", right("sheet size 20 join 0", 0).about(1), 0);
        due.is("about(1)", right("sheet size 20 join 50", 0).about(1), 50);
        wrong("sheet size 20 join 51", 2, 19);
        due.is("a join above the size", right("sheet size 1 join 50", 0).about(1), 50);
        for (String line : new String[] {"stroke 1 2 3 4", "home 1 1", "pace 1 1"}) {
            right(HEAD + ";" + line, line.startsWith("stroke") ? 1 : 0);
            wrong(line + ";" + HEAD, 6, 0);
        }
    }

    private static void strokeLine() {
        due.says(0, "stroke X Y X Y (a STROKE from one POINT to another, unlike one, X, Y 0 .. SIZE; numbered from 0; up to 24)");
        for (int size : new int[] {9, 99, 200}) {
            for (int i = 0; i < 4; i++) {
                int[] e = {3, 4, 5, 6};
                int head = ("sheet size " + size + " join 0;stroke ").length();
                e[i] = 0;
                due.is("stroke(0, " + i + ")", right(Due.text(size, 0, e), 1).stroke(0, i), 0);
                e[i] = size;
                due.is("stroke(0, " + i + ")", right(Due.text(size, 0, e), 1).stroke(0, i), size);
                e[i] = size + 1;
                wrong(Due.text(size, 0, e), 2, head + 2 * i);
            }
        }
        right("sheet size 1 join 0;stroke 0 1 1 0", 1);
        wrong("sheet size 1 join 0;stroke 0 1 2 0", 2, 31);
        right(HEAD + ";stroke 3 4 3 5", 1);
        right(HEAD + ";stroke 3 4 5 4", 1);
        right(HEAD + ";stroke 3 4 4 3", 1);
        wrong(HEAD + ";stroke 3 4 3 4", 3, 34);
        PenTrails two = right(HEAD + ";stroke 3 4 5 6;stroke 7 8 9 10", 2);
        due.row("X of each", new int[] {two.stroke(-1, 0), two.stroke(0, 0), two.stroke(1, 0), two.stroke(2, 0)}, -1, 3, 7, -1);
        right(HEAD + ";stroke 0 0 1 1".repeat(23), 23);
        right(HEAD + ";stroke 0 0 1 1".repeat(24), 24);
        right(HEAD + ";stroke 0 0 1 1".repeat(24) + ";home 1 1;pace 1 1", 24);
        wrong(HEAD + ";stroke 0 0 1 1".repeat(25), 5, 381);
    }

    private static void homeLine() {
        due.says(0, "home X Y (HOME; 0, 0 without; at most once)");
        PenTrails x = right(HEAD, 0);
        due.row("HOME", new int[] {x.about(3), x.about(4)}, 0, 0);
        x = right(HEAD + ";home 0 20", 0);
        due.row("HOME", new int[] {x.about(3), x.about(4)}, 0, 20);
        x = right(HEAD + ";home 20 0", 0);
        due.row("HOME", new int[] {x.about(3), x.about(4)}, 20, 0);
        wrong(HEAD + ";home 21 0", 2, 26);
        wrong(HEAD + ";home 0 21", 2, 28);
        wrong(HEAD + ";home 1 1;home 1 1", 4, 30);
        // A second drawing has its own HOME and PACE again.
        due.is("another sheet", Due.sheet(x, HEAD + ";home 3 4;pace 5 6"), 0);
        due.is("and one without home and pace", Due.sheet(x, HEAD), 0);
        due.row("HOME, PACE", new int[] {x.about(3), x.about(4), x.about(5), x.about(6)}, 0, 0, 1, 1);
        due.is("and one with both again", Due.sheet(x, HEAD + ";home 3 4;pace 5 6"), 0);
    }

    private static void paceLine() {
        due.says(0, "pace WHOLE WHOLE (DOWN, UP, 1 .. 9; 1, 1 without; at most once)");
        PenTrails x = right(HEAD, 0);
        due.row("PACE", new int[] {x.about(5), x.about(6)}, 1, 1);
        x = right(HEAD + ";pace 1 9", 0);
        due.row("PACE", new int[] {x.about(5), x.about(6)}, 1, 9);
        x = right(HEAD + ";pace 9 1", 0);
        due.row("PACE", new int[] {x.about(5), x.about(6)}, 9, 1);
        wrong(HEAD + ";pace 0 1", 2, 26);
        wrong(HEAD + ";pace 10 1", 2, 26);
        wrong(HEAD + ";pace 1 0", 2, 28);
        wrong(HEAD + ";pace 1 10", 2, 28);
        wrong(HEAD + ";pace 1 1;pace 1 1", 4, 30);
        right(HEAD + ";pace 1 1;home 1 1", 0);
    }

    private static void firstFault() {
        due.says(0, "FAULTS, the first that is met from the left,");
        wrong("sheet size 0 join 51", 2, 11);
        wrong("sheet size 20 join 51;;", 2, 19);
        wrong(HEAD + ";home 21 1;;", 2, 26);
        wrong(HEAD + ";;home 21 1", 1, 21);
        wrong(HEAD + ";stroke 1 1 1 1;pace 0 1", 3, 34);
        wrong(HEAD + ";pace 0 1;stroke 1 1 1 1", 2, 26);
        wrong(HEAD + ";home 1 1;home 1 1;stroke 1 1 1 1", 4, 30);
        wrong(HEAD + ";stroke 1 1 1 1;sheet", 3, 34);
        wrong(HEAD + ";sheet;stroke 1 1 1 1", 4, 21);
        wrong("pace 0 0;#", 6, 0);
        wrong("#pace 0 0", 1, 0);
        wrong(HEAD + ";stroke 0 0 1 1".repeat(24) + ";stroke 99 #", 5, 381);
        wrong(HEAD + ";stroke 0 0 1 1".repeat(23) + ";stroke 1 1 1 1;stroke", 3, 379);
        wrong(HEAD + ";home 1 1;home" + ";stroke 0 0 1 1".repeat(25), 4, 30);
    }

    private static void leastNumber() {
        due.says(0, "of one place the least number:");
        // FORM ahead of AGAIN, where no line can begin.
        wrong("sheet sheet size 20 join 1", 1, 6);
        wrong("sheet size 20 sheet", 1, 14);
        wrong(HEAD + " sheet", 1, 21);
        wrong(HEAD + ";home home", 1, 26);
        wrong(HEAD + ";home 1 1 home 1 1", 1, 30);
        wrong(HEAD + ";pace 1 1 pace 1 1", 1, 30);
        // FORM ahead of MANY and of LACKS.
        wrong(HEAD + ";stroke 0 0 1 1".repeat(24) + " stroke 0 0 1 1", 1, 381);
        wrong("sheet home 1 1", 1, 6);
        wrong("", 1, 0);
        wrong("  ", 1, 2);
    }

    private static final String LONG = "sheet size 10 join 1;stroke 1 2 3 4;home 5 6;pace 7 8";
    private static final int[] PLACES = {0, 6, 11, 14, 19, 20, 21, 28, 30, 32, 34, 35, 36, 41, 43, 44, 45, 50, 52};

    /** Each beginning of a right text: cut within a word FORM is at the word, else at the end. */
    private static void formAtTheEnd() {
        due.says(0, "1 FORM: the first byte that begins no TOKEN, or TOKEN with which no DRAWING goes on (the end: its place).");
        for (int n = 0; n < LONG.length(); n++) {
            int word = n;
            while (word > 0 && isLetter(LONG.charAt(word - 1))) {
                word--;
            }
            boolean whole = n == 20 || n == 35 || n == 44;
            if (whole) {
                right(LONG.substring(0, n), n > 20 ? 1 : 0);
            } else {
                wrong(LONG.substring(0, n), 1, isLetter(LONG.charAt(n)) ? word : n);
                wrong(LONG.substring(0, n) + "   ", 1, isLetter(LONG.charAt(n)) && word < n ? word : n + 3);
            }
        }
        right(LONG, 1);
    }

    /** Each token of a right text, with another one or a byte that begins none in its place. */
    private static void formAtATokens() {
        String[] others = {"x", "9", ";", "#", "\0", "\u00ff", "strokes", "1000", "size", "join"};
        for (int i = 0; i < PLACES.length; i++) {
            int from = PLACES[i];
            int to = from + 1;
            while (to < LONG.length() && (isLetter(LONG.charAt(from)) && isLetter(LONG.charAt(to))
                    || isDigit(LONG.charAt(from)) && isDigit(LONG.charAt(to)))) {
                to++;
            }
            for (String other : others) {
                String text = LONG.substring(0, from) + " " + other + " " + LONG.substring(to);
                boolean fits = other.equals("9") && isDigit(LONG.charAt(from)) || other.equals(LONG.substring(from, to));
                if (fits) {
                    right(text, 1);
                } else {
                    wrong(text, 1, from + 1);
                }
            }
        }
        wrong(LONG + " 1", 1, 54);
        wrong(LONG + "x", 1, 53);
        wrong(LONG + "\0", 1, 53);
    }

    private static void bounds() {
        due.says(0, "2 a WHOLE out of bounds; at it.");
        wrong("sheet size   0 join 51", 2, 13);
        wrong("sheet size 20 join  51", 2, 20);
        wrong(HEAD + ";stroke 1 2 3  21", 2, 35);
        wrong(HEAD + ";stroke 21 21 21 21", 2, 28);
        wrong(HEAD + ";stroke 1 21 1 21", 2, 30);
        wrong(HEAD + ";home 021 1", 2, 26);
        due.says(0, "3 DOT: a STROKE to the POINT where it begins; at its last Y.");
        wrong(HEAD + ";stroke 0 0 0 0", 3, 34);
        wrong(HEAD + ";stroke 20 20 20 20", 3, 37);
        wrong(HEAD + ";stroke 5 6 05  006 x", 3, 36);
        wrong(HEAD + ";stroke 1 2 3 4;stroke 1 2 1 2", 3, 49);
        right(HEAD + ";stroke 1 2 3 4;stroke 1 2 3 4;stroke 3 4 1 2", 3);
    }

    private static void again() {
        due.says(0, "4 AGAIN: a second sheet, home, pace; at that WORD.");
        wrong(HEAD + ";" + HEAD, 4, 21);
        wrong(HEAD + ";stroke 0 0 1 1;  sheet", 4, 38);
        wrong(HEAD + ";home 1 1;stroke 0 0 1 1;home", 4, 45);
        wrong(HEAD + ";pace 1 1;stroke 0 0 1 1;pace #", 4, 45);
        due.says(0, "5 MANY: a 25th STROKE, at its WORD.");
        wrong(HEAD + ";stroke 0 0 1 1".repeat(24) + ";  stroke", 5, 383);
        wrong(HEAD + ";home 1 1" + ";stroke 0 0 1 1".repeat(25), 5, 390);
        due.says(0, "6 LACKS: any LINE ahead of the sheet; at its WORD; at the end: no sheet.");
        wrong("stroke", 6, 0);
        wrong("  home 1 1", 6, 2);
        wrong(" pace 1 1;" + HEAD, 6, 1);
        // Where there is nothing at all, FORM is at the same place, and is less.
        wrong("", 1, 0);
        right(HEAD, 0);
    }

    private static void newObject() {
        due.says(1, "No DRAWING.");
        PenTrails x = new PenTrails();
        due.row("what is told", new int[] {x.trouble(), x.fault(), x.where(), x.size(0), x.size(1), x.size(2)}, 0, 0, -1, 0, 0, 0);
        int[] one = {x.about(0), x.stroke(0, 0), x.meeting(0, 0), x.part(0, 0), x.pair(0, 0), x.walk(0, 0), x.trail(0, 0),
            x.ride(0, 0), x.travel(), x.started(), x.better(0), x.floor(), x.time(), x.pen(0, 0), x.longest(), x.farthest(),
            x.lifts(), x.rides(0), x.worst(), x.nearest(), x.enough(1), x.add(0, 0, 1, 1), x.drop(0), x.home(0, 0), x.join(0),
            x.pace(1, 1), x.exchange(0, 0), x.improve()};
        for (int i = 0; i < one.length; i++) {
            due.is("call " + i + " without a drawing", one[i], -1);
        }
        due.is("trouble()", x.trouble(), 1);
        due.is("exchanged(0, 0)", x, x.exchanged(0, 0), Due.MIN, 1);
        due.is("would(0, 0, 1, 1)", x, x.would(0, 0, 1, 1), Due.MIN, 1);
        due.is("undo()", x, x.undo() ? 1 : 0, 0, 1);
        due.throwsNone("loose(0)", x, 0);
        due.is("size(1) behind all these", x.size(1), 0);
        // Each object has a drawing of its own.
        PenTrails other = Due.drawn(Due.CROSS);
        due.is("about(2) of another one", other.about(2), 4);
        due.is("about(2)", x, x.about(2), -1, 1);
    }

    private static void feeding() {
        due.says(2, "Twenty bytes come behind THE TAPE, of each number the highest first: how many it has;");
        PenTrails x = new PenTrails();
        due.is("feed()", x.feed(0x73686565, 0x74207369, 0x7a652039, 0x206a6f69, 0x6e20383b), 20);
        due.is("feed()", x.feed(0x73747266, 0x66202020, 0x20202020, 0x20202020, 0x20202020), 40);
        due.is("sheet(19)", x.sheet(19), 0);
        due.row("SIZE, JOIN", new int[] {x.about(0), x.about(1)}, 9, 8);
        // The highest byte of a number may be above 127.
        for (int sign = 128; sign <= 255; sign++) {
            x.feed(sign << 24, 0, 0, 0, 0);
            due.is("sheet(1) of " + sign, x.sheet(1), -1);
            due.is("fault()", x.fault(), 1);
        }
        due.says(2, "NONE, and none comes, if there would be more than 700.");
        for (int n = 20; n <= 700; n += 20) {
            due.is("feed()", x.feed(-1, -1, -1, -1, -1), n);
            due.is("size(0)", x.size(0), n);
        }
        due.is("feed() on 700", x.feed(-1, -1, -1, -1, -1), -1);
        due.is("feed() on 700", x.feed(0, 0, 0, 0, 0), -1);
        due.is("size(0)", x.size(0), 700);
        x.sheet(0);
        due.is("feed() on an empty one", x.feed(-1, -1, -1, -1, -1), 20);
    }

    private static void sheets() {
        due.says(3, "The first n bytes of THE TAPE (it is empty then) are the DRAWING from now on (nothing to undo): how many STROKES.");
        PenTrails x = Due.drawn(Due.CROSS);
        x.exchange(0, 0);
        x.home(1, 1);
        String text = HEAD + ";stroke 1 2 3 4;stroke 5 6 7 8";
        Due.feed(x, text);
        due.is("sheet(35)", x, x.sheet(35), 1, 0);
        due.row("size(_)", new int[] {x.size(0), x.size(1)}, 0, 0);
        due.is("undo()", x, x.undo() ? 1 : 0, 0, 1);
        due.same("sheet()", Due.told(Due.drawn(text.substring(0, 35))), Due.told(x));
        Due.feed(x, text);
        due.is("sheet(20)", x, x.sheet(20), 0, 0);
        due.is("sheet() of all", x, Due.sheet(x, text), 2, 0);
        due.is("sheet() of 24", x, Due.sheet(x, Due.FULL), 24, 0);
        due.is("sheet() of the same again", x, Due.sheet(x, Due.FULL), 24, 0);
        due.says(3, "NONE: 2 (n; THE TAPE stays);");
        for (int n : new int[] {Due.MIN, -1, 1, Due.MAX}) {
            due.is("sheet(" + n + ") of none", x, x.sheet(n), -1, 2);
        }
        Due.feed(x, HEAD);
        String ahead = Due.told(x);
        for (int n : new int[] {Due.MIN, -1, 21, 700, 701, Due.MAX}) {
            due.is("sheet(" + n + ") of 20", x, x.sheet(n), -1, 2);
            due.is("size(0)", x.size(0), 20);
        }
        due.same("sheet() refused by 2", ahead, Due.told(x));
        due.is("sheet(20) of 20", x, x.sheet(20), 0, 0);
    }

    private static void sheetsOfFaults() {
        due.says(3, "4 (the DRAWING stays).");
        PenTrails x = Due.drawn(Due.SQUARE_AND_ARMS);
        x.exchange(0, 1);
        x.home(3, 4);
        String ahead = Due.told(x);
        String[] faulty = {"", "sheet size 0", HEAD + ";stroke 5 5 5 5", HEAD + ";home 9 9;home", FULL_AND_ONE, "home 7 7",
            HEAD + ";stroke 1 1 2 2;pace 9 9;"};
        for (String text : faulty) {
            Due.feed(x, "#");
            due.is("sheet(0)", x, x.sheet(0), -1, 4);
            due.is("size(0)", x.size(0), 0);
            due.is("sheet of '" + text + "'", x, Due.sheet(x, text), -1, 4);
            due.is("size(0)", x.size(0), 0);
            due.same("sheet of '" + text + "'", ahead, Due.told(x));
        }
        // What was done ahead of it can still be undone.
        due.is("undo()", x, x.undo() ? 1 : 0, 1, 0);
        due.is("undo()", x, x.undo() ? 1 : 0, 1, 0);
        due.same("undo() behind faults", Due.told(Due.drawn(Due.SQUARE_AND_ARMS)), Due.told(x));
    }

    private static final String FULL_AND_ONE = Due.FULL + ";stroke 0 0 1 1";

    private static void faults() {
        due.says(4, "The FAULT of the latest sheet() not refused by 2; 0 without one.");
        PenTrails x = new PenTrails();
        due.is("fault()", x.fault(), 0);
        x.sheet(1);
        due.is("fault() behind a refusal by 2", x.fault(), 0);
        String[] texts = {"", HEAD + ";home 21 1", HEAD + ";stroke 1 1 1 1", HEAD + ";sheet", FULL_AND_ONE, "home"};
        for (int i = 0; i < texts.length; i++) {
            Due.sheet(x, texts[i]);
            due.is("fault()", x.fault(), i + 1);
            x.sheet(-1);
            x.sheet(1);
            x.travel();
            x.undo();
            due.is("fault() behind others", x.fault(), i + 1);
        }
        Due.sheet(x, HEAD);
        due.is("fault() of a right one", x.fault(), 0);
        x.sheet(-1);
        due.is("fault() behind a refusal by 2", x.fault(), 0);
    }

    private static void places() {
        due.says(5, "Its place, if the latest call that may be refused was by 4; NONE else.");
        PenTrails x = new PenTrails();
        due.is("where()", x.where(), -1);
        Due.sheet(x, HEAD + "#");
        due.is("where()", x.where(), 20);
        due.is("where() once more", x.where(), 20);
        x.feed(1, 2, 3, 4, 5);
        x.fault();
        x.size(0);
        x.size(9);
        x.trouble();
        due.throwsNone("loose(0)", x, 0);
        due.is("where() behind calls of no number", x.where(), 20);
        x.sheet(99);
        due.is("where() behind a refusal by 2", x.where(), -1);
        Due.sheet(x, HEAD + "#");
        x.undo();
        due.is("where() behind a refusal by 1", x.where(), -1);
        Due.sheet(x, HEAD);
        due.is("where() of a right one", x.where(), -1);
        x.sheet(0);
        due.is("where() of the place 0", x.where(), 0);
        x.about(0);
        due.is("where() behind a call that wasn't refused", x.where(), -1);
        due.is("fault() then", x.fault(), 1);
    }

    public static void main(String[] args) {
        tape();
        blanks();
        words();
        wholes();
        lines();
        sheetLine();
        strokeLine();
        homeLine();
        paceLine();
        firstFault();
        leastNumber();
        formAtTheEnd();
        formAtATokens();
        bounds();
        again();
        newObject();
        feeding();
        sheets();
        sheetsOfFaults();
        faults();
        places();
        due.end();
    }
}
