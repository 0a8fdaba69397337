/**
 * Promises 1 to 8, 39 to 41 and the texts of term 1 at their boundaries: for each sentence that names one a method, which
 * asks at the boundary, just inside it and just outside it.
 */
public final class TellEdgesTest {
    private static final Due DUE = new Due("TellEdgesTest");
    private static final String[] KINDS = {"first", "last", "most", "till", "both", "once"};
    /** A line of each word: how it begins, and the least numbers that can be. */
    private static final String[][] LINES = {
        {"0", "people", "2"}, {"0", "first", "0"}, {"0", "last", "0"}, {"0", "most", "0"}, {"0", "till", "0"},
        {"0", "both", "0"}, {"0", "once", "0"}, {"0", "doubt", "0", "1"}, {"0", "tie", "0", "1", "1", "1"},
        {"0", "slow", "0"}, {"0", "tires", "0", "0"}, {"1", "word", "0", "0"}, {"1", "deny", "0", "0"},
        {"1", "wall", "0", "0", "0"}};

    /** Whether an object shows the number that was told. */
    private interface Look {
        boolean shows(SaidBack x, int n);
    }

    private static String shown(String text) {
        String whole = text.length() > 60 ? text.substring(0, 60) + ".." : text;
        return " '" + whole.replace("\n", "\\n") + "'";
    }

    /** Reads a text on a new object: fault 0 and place -1, if there is none. */
    private static SaidBack read(String what, int sort, String text, int fault, int place) {
        SaidBack x = new SaidBack();
        DUE.is(what + shown(text), Tapes.tell(x, sort, text), fault == 0 ? 0 : -1);
        DUE.is(what + shown(text) + ", fault", x.fault(0), fault);
        DUE.is(what + shown(text) + ", place", x.fault(1), place);
        DUE.is(what + shown(text) + ", how many", x.count(sort), fault == 0 ? 1 : 0);
        return x;
    }

    private static String times(String line, int n) {
        StringBuilder b = new StringBuilder();
        for (int i = 0; i < n; i++) {
            b.append(line);
        }
        return b.toString();
    }

    /** A number of a line, at both ends of what it can be, just inside and just outside them. */
    private static void number(String what, int sort, String before, String behind, int least, int most, Look look) {
        int place = before.length();
        for (int n : new int[] {least - 1, least, least + 1, most - 1, most, most + 1}) {
            // -1 begins with a byte of no token, 100 is a longer row of digits
            int fault = n < 0 || n > 99 ? 1 : n < least || n > most ? 2 : 0;
            SaidBack x = read(what, sort, before + n + behind, fault, fault == 0 ? -1 : place);
            DUE.is(what + shown(before + n + behind) + " is told", fault != 0 || look.shows(x, n), true);
            if (n >= 0 && n < 10) {
                x = read(what, sort, before + "0" + n + behind, fault, fault == 0 ? -1 : place);
                DUE.is(what + shown(before + "0" + n + behind) + " is told", fault != 0 || look.shows(x, n), true);
            }
        }
    }

    // promise 1

    /** "No VILLAGES, TELLINGS; no images." */
    private static void nothingAtFirst() {
        SaidBack x = new SaidBack();
        DUE.is("1: no villages", x.count(0), 0);
        DUE.is("1: no tellings", x.count(1), 0);
        DUE.is("1: no village 0", x.village(0, 0), -1);
        DUE.is("1: no telling 0", x.act(0, -1, 0), -2);
        DUE.is("1: no village in whose place", x.text(0, 0), -2);
        DUE.is("1: no telling in whose place", x.text(1, 0), -2);
        for (int k = 0; k < 3; k++) {
            DUE.is("1: no image " + k, x.again(k), false);
        }
        DUE.is("1: no byte", x.end(1), -1);
        DUE.is("1: no fault", x.fault(0), 0);
        DUE.is("1: no fault's place", x.fault(1), -1);
        DUE.is("1: two objects share nothing", Tapes.tell(new SaidBack(), 0, "people 3;"), 0);
        DUE.is("1: of the other one", x.count(0), 0);
    }

    // promises 2 and 3

    /** "THE TAPE has at most 600 bytes"; "NONE, and nothing comes, if there would be more than 600." */
    private static void tapeOf600() {
        for (int has = 578; has <= 582; has++) {
            SaidBack x = new SaidBack();
            Tapes.feed(x, times(" ", has));
            DUE.is("2: behind " + has, x.feed(0x3b3b3b3b, 0, 0, 0, 0), has <= 580 ? has + 20 : -1);
            DUE.is("2: it has, behind " + has, x.end(has + 1), has <= 580 ? has + 1 : -1);
            DUE.is("2: it had, behind " + has, x.end(has), has);
            DUE.is("2: nothing of it is left of " + has, x.text(0, -1), 0);
        }
        SaidBack x = new SaidBack();
        Tapes.feed(x, times(" ", 600));
        DUE.is("2: 600 and no more", x.feed(0x3b3b3b3b, 0, 0, 0, 0), -1);
        DUE.is("2: of 600 not one more", x.end(601), -1);
        DUE.is("2: 600 stay", x.end(600), 600);
        DUE.is("2: 600 blanks", x.text(0, -1), 0);
        DUE.is("2: from the beginning again", x.feed(0, 0, 0, 0, 0), 20);
    }

    /** The last byte of 600 is read, too. */
    private static void textOf600() {
        read("4: 600 bytes", 0, times(" ", 592) + "slow 03;", 0, -1);
        read("4: the 600th byte", 0, times(" ", 599) + "!", 1, 599);
        read("4: the 600th byte, behind a line", 0, times(" ", 592) + "slow 3;!", 1, 599);
        read("4: the end at 600", 0, times(" ", 593) + "slow 03", 1, 600);
        read("4: the end at 600, nobody", 0, times(" ", 592) + "first 2;", 4, 600);
        read("4: the end at 599, nobody", 0, times(" ", 591) + "first 2;", 4, 599);
        SaidBack x = read("4: a line to the end", 0, "people 16;most" + times(" 7", 292) + ";", 0, -1);
        DUE.is("4: a line to the end", x.village(0, 17), 2);
    }

    /** "twenty bytes come behind it, of each number the highest first: how many it has." */
    private static void bytesInOrder() {
        int[] five = new int[5];
        for (int at = 0; at < 20; at++) {
            for (int first : new int[] {0, 1, 7, 20}) {
                for (int i = 0; i < 5; i++) {
                    five[i] = i == at / 4 ? 0x20202020 + (1 << 24 - 8 * (at % 4)) : 0x20202020;
                }
                SaidBack x = new SaidBack();
                Tapes.feed(x, times(" ", first));
                DUE.is("2: behind " + first, x.feed(five[0], five[1], five[2], five[3], five[4]), first + 20);
                DUE.is("2: byte " + at, x.text(0, -1), -1);
                DUE.is("2: byte " + at + " behind " + first, x.fault(1), first + at);
            }
        }
        SaidBack x = new SaidBack();
        x.feed(0xff202020, 0x20202020, 0x20202020, 0x20202020, 0x202020ff);
        x.text(0, -1);
        DUE.is("2: a byte of 255 is no blank", x.fault(1), 0);
        x.feed(0x20202020, 0x20202020, 0x20202020, 0x20202020, 0x202020ff);
        x.text(0, -1);
        DUE.is("2: the last of 255", x.fault(1), 19);
    }

    /** "The tape has its first n bytes alone: n. NONE if it has not so many, or n is below 0." */
    private static void firstBytes() {
        for (int has : new int[] {0, 1, 20, 599, 600}) {
            SaidBack x = new SaidBack();
            Tapes.feed(x, times(" ", has));
            DUE.is("3: more than " + has, x.end(has + 1), -1);
            DUE.is("3: below 0", x.end(-1), -1);
            DUE.is("3: far below 0", x.end(Integer.MIN_VALUE), -1);
            DUE.is("3: far more", x.end(Integer.MAX_VALUE), -1);
            DUE.is("3: all " + has, x.end(has), has);
            DUE.is("3: all but the last of " + has, x.end(has - 1), has - 1);
            DUE.is("3: none", x.end(0), 0);
            DUE.is("3: none stay", x.end(1), -1);
        }
        SaidBack x = new SaidBack();
        Tapes.feed(x, "slow 2;!");
        DUE.is("3: its first ones", x.end(7), 7);
        DUE.is("3: alone", x.text(0, -1), 0);
        Tapes.feed(x, "slow 2;!");
        DUE.is("3: by NONE it stays", x.end(9), -1);
        DUE.is("3: by NONE all of it stays", x.text(0, -1), -1);
        DUE.is("3: to its last byte", x.fault(1), 7);
    }

    // term 1: the texts

    /** "blanks (10, 32) between" and no other byte; "words, rows of letters a .. z"; "; one byte". */
    private static void everyByte() {
        for (int b = 0; b < 256; b++) {
            char sign = (char) b;
            boolean blank = b == 10 || b == 32;
            boolean letter = b >= 97 && b <= 122;
            boolean digit = b >= 48 && b <= 57;
            String what = "1: byte " + b;
            read(what + " ahead of all", 0, sign + "slow 2;", blank ? 0 : 1, blank ? -1 : 0);
            read(what + " behind all", 0, "slow 2;" + sign, blank ? 0 : 1, blank ? -1 : 7);
            read(what + " within a word", 0, "sl" + sign + "ow 2;", 1, 0);
            int fault = blank || digit && b <= 49 ? 0 : digit ? 2 : 1;
            read(what + " behind a word", 0, "people" + sign + "2;", fault, fault == 0 ? -1 : letter ? 0 : 6);
            fault = blank ? 0 : digit ? 2 : 1;
            read(what + " behind a number", 0, "slow 2" + sign + ";", fault, blank ? -1 : digit ? 5 : b == 59 ? 7 : 6);
            fault = blank ? 0 : 1;
            read(what + " as a line's end", 1, "word 0 0" + sign + "word 0 0;", b == 59 ? 0 : 1,
                b == 59 ? -1 : digit ? 9 : blank ? 9 : 8);
        }
        read("1: no blanks at all", 0, "people3;first0;tie0 1 1 1;", 0, -1);
        read("1: blanks everywhere", 0, "\n \n people \n 3 \n ; \n slow \n 1 ; ", 0, -1);
        read("1: blanks alone", 0, " \n", 0, -1);
        read("1: no byte", 0, "", 0, -1);
        read("1: no byte of a telling", 1, "", 0, -1);
    }

    /** "NUMBERS, 1 or 2 digits"; "a longer row of digits is no token". */
    private static void digits() {
        SaidBack x = read("1: one digit", 0, "people 3;", 0, -1);
        DUE.is("1: one digit", x.village(0, 0), 3);
        x = read("1: two digits", 0, "people 03;", 0, -1);
        DUE.is("1: two digits", x.village(0, 0), 3);
        x = read("1: two digits", 0, "people 13;", 0, -1);
        DUE.is("1: the higher one first", x.village(0, 0), 13);
        read("1: three digits", 0, "people 003;", 1, 7);
        read("1: three digits", 0, "people 100;", 1, 7);
        read("1: four digits", 0, "people 0003;", 1, 7);
        read("1: as long as they go, no two numbers", 0, "doubt 0011;", 1, 6);
        read("1: a long row", 0, "people " + times("9", 590) + ";", 1, 7);
        read("1: a row of a multiple", 0, "people 10000000000000002;", 1, 7);
        read("1: three digits ahead of a number that can't be", 0, "doubt 100 0;", 1, 6);
        read("1: three digits behind a number that can't be", 0, "doubt 16 100;", 1, 9);
        read("1: three digits in place of a word", 0, "slow 1;123;", 1, 7);
        read("1: three digits of a telling", 1, "word 100 0;", 1, 5);
        read("1: three digits of a telling, last", 1, "wall 0 0 100;", 1, 9);
    }

    /** The words are those, and of each sort its own. */
    private static void words() {
        for (String[] line : LINES) {
            int sort = line[0].equals("0") ? 0 : 1;
            StringBuilder b = new StringBuilder();
            for (int i = 2; i < line.length; i++) {
                b.append(' ').append(line[i]);
            }
            String numbers = b.append(';').toString();
            String word = line[1];
            read("1: word", sort, word + numbers, 0, -1);
            read("1: of the other sort", 1 - sort, word + numbers, 1, 0);
            read("1: without its last letter", sort, word.substring(0, word.length() - 1) + numbers, 1, 0);
            read("1: without its first letter", sort, word.substring(1) + numbers, 1, 0);
            read("1: with a letter more", sort, word + "a" + numbers, 1, 0);
            read("1: with another letter more", sort, word + "z" + numbers, 1, 0);
            read("1: another first letter", sort, (char) (word.charAt(0) ^ 1) + word.substring(1) + numbers, 1, 0);
            read("1: another last letter", sort, word.substring(0, word.length() - 1) + "q" + numbers, 1, 0);
            read("1: a great letter", sort, (char) (word.charAt(0) - 32) + word.substring(1) + numbers, 1, 0);
            read("1: twice", sort, word + numbers + word + numbers, 0, -1);
        }
    }

    /** How many NUMBERS a line has: one less and one more is a text that doesn't go on. */
    private static void howManyNumbers() {
        for (String[] line : LINES) {
            int sort = line[0].equals("0") ? 0 : 1;
            boolean kind = line.length == 3 && !line[1].equals("people") && !line[1].equals("slow");
            StringBuilder b = new StringBuilder(line[1]);
            for (int i = 2; i < line.length; i++) {
                read("1: too few numbers", sort, b + ";", 1, b.length());
                read("1: too few numbers at the end", sort, b.toString(), 1, b.length());
                read("1: too few numbers ahead of a word", sort, b + " " + line[1], 1, b.length() + 1);
                b.append(' ').append(line[i]);
            }
            read("1: no ; behind", sort, b.toString(), 1, b.length());
            read("1: no ; behind, blanks", sort, b + " \n", 1, b.length() + 2);
            read("1: no ; ahead of a word", sort, b + " " + line[1], 1, b.length() + 1);
            read("1: just as many", sort, b + ";", 0, -1);
            read("1: two ;", sort, b + ";;", 1, b.length() + 1);
            read("1: one more", sort, b + " 0;", kind ? 0 : 1, kind ? -1 : b.length() + 1);
            read("1: a hundred more", sort, b + times(" 0", 100) + ";", kind ? 0 : 1, kind ? -1 : b.length() + 1);
        }
        read("1: a ; alone", 0, ";", 1, 0);
        read("1: a number alone", 0, "1;", 1, 0);
    }

    private static void villagesNumbers() {
        number("1: PEOPLE, 1 .. 16", 0, "people ", ";", 1, 16, (x, n) -> x.village(0, 0) == n);
        for (int k = 0; k < 6; k++) {
            int kind = k;
            String before = "people 16;" + (k == 0 ? "last 0 1 2 3 4 5 6 7 8 9 10 11 12 13 14 15;" : "") + KINDS[k];
            number("1: PEOPLE of that KIND are 0 .. 15", 0, before + " ", ";", 0, 15, (x, n) -> x.village(0, 10 + n) == kind);
            number("1: of several of that KIND", 0, before + " 7 ", " 8;", 0, 15,
                (x, n) -> x.village(0, 10 + n) == kind && x.village(0, 17) == kind && x.village(0, 18) == kind);
        }
        number("1: doubt: who, 0 .. 15", 0, "people 16;doubt ", " 5;", 0, 15, (x, n) -> x.village(0, 30 + n) == 5);
        number("1: a DOUBT, 1 .. 99", 0, "doubt 1 ", ";", 1, 99, (x, n) -> x.village(0, 31) == n);
        number("1: tie: from, 0 .. 15", 0, "people 16;tie ", " 7 1 1;", 0, 15, (x, n) -> x.tie(0, 0, 0) == n);
        number("1: tie: to, 0 .. 15", 0, "people 16;tie 7 ", " 1 1;", 0, 15, (x, n) -> x.tie(0, 0, 1) == n);
        number("1: DAYS, 1 .. 3", 0, "tie 0 1 ", " 1;", 1, 3, (x, n) -> x.tie(0, 0, 2) == n);
        number("1: STRENGTH, 1 .. 9", 0, "tie 0 1 1 ", ";", 1, 9, (x, n) -> x.tie(0, 0, 3) == n);
        number("1: SLOW, 0 .. 3", 0, "slow ", ";", 0, 3, (x, n) -> x.village(0, 2) == n);
        number("1: TIRES of the WORD, 0 .. 30", 0, "tires ", " 7;", 0, 30, (x, n) -> x.village(0, 3) == n);
        number("1: TIRES of the DENIAL, 0 .. 30", 0, "tires 7 ", ";", 0, 30, (x, n) -> x.village(0, 4) == n);
    }

    private static void tellingsNumbers() {
        number("1: word: a day, 0 .. 99", 1, "word ", " 1;", 0, 99, (x, n) -> x.act(0, 0, 1) == n);
        number("1: word: one of PEOPLE, 0 .. 15", 1, "word 1 ", ";", 0, 15, (x, n) -> x.act(0, 0, 2) == n);
        number("1: deny: a day, 0 .. 99", 1, "deny ", " 1;", 0, 99, (x, n) -> x.act(0, 0, 1) == n);
        number("1: deny: one of PEOPLE, 0 .. 15", 1, "deny 1 ", ";", 0, 15, (x, n) -> x.act(0, 0, 2) == n);
        number("1: wall: a TIE, 0 .. 39", 1, "wall ", " 1 1;", 0, 39, (x, n) -> x.act(0, 0, 1) == n);
        number("1: wall: from which day", 1, "wall 1 ", " 99;", 0, 99, (x, n) -> x.act(0, 0, 2) == n);
        number("1: wall: to which day", 1, "wall 1 0 ", ";", 0, 99, (x, n) -> x.act(0, 0, 3) == n);
        number("1: wall: not ahead of day 5", 1, "wall 1 5 ", ";", 5, 99, (x, n) -> x.act(0, 0, 3) == n);
        number("1: wall: not ahead of day 99", 1, "wall 1 99 ", ";", 99, 99, (x, n) -> x.act(0, 0, 3) == n);
        for (int from = 0; from < 10; from++) {
            read("1: wall: to day 5", 1, "wall 1 " + from + " 5;", from <= 5 ? 0 : 2, from <= 5 ? -1 : 9);
        }
    }

    /** "of tie the second one, if it is the first". */
    private static void tieToHimself() {
        for (int p = 0; p < 16; p++) {
            String before = "people 16;tie " + p + " ";
            read("1: a tie to himself", 0, before + p + " 1 1;", 2, before.length());
            if (p < 10) {
                read("1: a tie to himself", 0, before + "0" + p + " 1 1;", 2, before.length());
            }
            if (p > 0) {
                read("1: a tie to the one ahead", 0, before + (p - 1) + " 1 1;", 0, -1);
            }
            if (p < 15) {
                read("1: a tie to the one behind", 0, before + (p + 1) + " 1 1;", 0, -1);
            }
        }
        read("1: the same numbers elsewhere", 0, "people 3;tie 1 2 1 1;tie 2 1 2 2;doubt 1 1;tires 1 1;", 0, -1);
        read("1: of the line itself", 0, "people 3;tie 2 1 1 1;tie 1 1 1 1;", 2, 27);
    }

    /** Of no line: 2 PEOPLE, FIRST, DOUBT 1, SLOW 0, TIRES 0, no TIES. */
    private static void atFirst() {
        SaidBack x = Tapes.with("");
        int[] due = {2, 0, 0, 0, 0};
        for (int what = 0; what < 5; what++) {
            DUE.is("1: at first " + what, x.village(0, what), due[what]);
        }
        x = Tapes.with("people 16;");
        for (int p = 0; p < 16; p++) {
            DUE.is("1: FIRST at first " + p, x.village(0, 10 + p), 0);
            DUE.is("1: a DOUBT of 1 at first " + p, x.village(0, 30 + p), 1);
        }
        DUE.is("1: no TIES at first", x.tie(0, 0, 0), -1);
    }

    /** "Later ones strike, but TIES, ACTS, which are further ones." */
    private static void laterOnes() {
        SaidBack x = Tapes.with("people 16;people 3;last 1 2;most 1;doubt 1 9;doubt 1 1;slow 3;slow 0;tires 30 29;tires 0 1;"
            + "tie 0 1 1 1;tie 0 1 1 1;", "word 0 0;word 0 0;deny 0 0;wall 0 0 0;wall 0 0 0;");
        int[] due = {3, 2, 0, 0, 1};
        for (int what = 0; what < 5; what++) {
            DUE.is("1: the later one strikes " + what, x.village(0, what), due[what]);
        }
        DUE.is("1: a KIND struck", x.village(0, 11), 2);
        DUE.is("1: a KIND not struck", x.village(0, 12), 1);
        DUE.is("1: a DOUBT struck", x.village(0, 31), 1);
        DUE.is("1: further ACTS", x.act(0, -1, 0), 5);
        DUE.is("1: both words come", x.person(0, 0, 0, 0, 1), 18);
        DUE.is("1: in one line, too", Tapes.with("last 0;first 0 0 0;").village(0, 10), 0);
    }

    /** "1 the first byte or token with which no text goes on", ahead of every other fault. */
    private static void faultOneAheadOfAll() {
        read("5: the first of two", 0, "people slow 1;x", 1, 7);
        read("5: the first of two, though a text would go on", 0, "first first 1;last last 1;", 1, 6);
        read("5: the first of two of a telling", 1, "word 0 deny 0 0;!", 1, 7);
        read("5: ahead of a number ahead of it", 0, "people 17;slow 9;x", 1, 17);
        read("5: ahead of a number behind it", 0, "x;people 17;", 1, 0);
        read("5: ahead of a 41st tie", 0, times("tie 0 1 1 1;", 41) + "x", 1, 492);
        read("5: ahead of a 31st act", 1, times("word 0 0;", 31) + "x", 1, 279);
        read("5: ahead of one who is not there", 0, "first 9;x", 1, 8);
        read("5: within a faulty line", 0, "doubt 16 0 0;", 1, 11);
        read("5: the end of a faulty line", 0, "tie 0 0 1 1", 1, 11);
    }

    /** "2 a NUMBER that can't be": the first by place; "there is none of these": 4 is behind 2 and 3. */
    private static void firstByPlace() {
        read("5: the first number", 0, "doubt 16 0;people 0;", 2, 6);
        read("5: the second number", 0, "doubt 15 0;people 0;", 2, 9);
        read("5: the next line's", 0, "people 16;doubt 15 1;slow 4;slow 5;", 2, 26);
        read("5: a number ahead of a 41st tie", 0, "slow 4;" + times("tie 0 1 1 1;", 41), 2, 5);
        read("5: a number in the 40th tie", 0, times("tie 0 1 1 1;", 39) + "tie 0 1 1 0;tie 0 1 1 1;", 2, 478);
        read("5: a 41st tie ahead of its number", 0, times("tie 0 1 1 1;", 40) + "tie 0 1 1 0;", 3, 480);
        read("5: a 41st tie ahead of a number", 0, times("tie 0 1 1 1;", 41) + "slow 4;", 3, 480);
        read("5: a number ahead of a 31st act", 1, "word 0 16;" + times("word 0 0;", 30), 2, 7);
        read("5: a 31st act ahead of its number", 1, times("word 0 0;", 30) + "wall 40 1 0;", 3, 270);
        read("5: a number, and one who is not there", 0, "first 2;slow 4;", 2, 13);
        read("5: a 41st tie, and one who is not there", 0, "first 2;" + times("tie 0 1 1 1;", 41), 3, 488);
        read("5: one of 16 is nobody told of", 0, "first 16;people 1;", 2, 6);
    }

    /** "a line with such a NUMBER tells its TIE, ACT all the same": by place the number is first anyway. */
    private static void faultyLineCounts() {
        read("5: a faulty tie and 39", 0, "tie 0 1 4 1;" + times("tie 0 1 1 1;", 39), 2, 8);
        read("5: a faulty tie and 40", 0, "tie 0 1 4 1;" + times("tie 0 1 1 1;", 40), 2, 8);
        read("5: 39, a faulty one, 1", 0, times("tie 0 1 1 1;", 39) + "tie 0 1 1 10;tie 0 1 1 1;", 2, 478);
        read("5: a faulty act and 30", 1, "word 0 16;" + times("word 0 0;", 30), 2, 7);
    }

    /** "3 a 41st TIE, a 31st ACT, at its first token". */
    private static void fortyAndThirty() {
        for (int n : new int[] {39, 40, 41, 42}) {
            SaidBack x = read("5: " + n + " ties", 0, times("tie 0 1 1 1;", n), n <= 40 ? 0 : 3, n <= 40 ? -1 : 480);
            DUE.is("5: " + n + " ties are told", x.village(0, 1), n <= 40 ? n : -1);
            DUE.is("5: the last of " + n, x.tie(0, n - 1, 0), n <= 40 ? 0 : -1);
        }
        read("5: a 41st tie behind blanks", 0, times("tie 0 1 1 1;", 40) + " \n tie 1 0 1 1;", 3, 483);
        read("5: a 41st tie behind other lines", 0, times("tie 0 1 1 1;", 40) + "slow 1;tie 1 0 1 1;", 3, 487);
        read("5: other lines behind 40 ties", 0, times("tie 0 1 1 1;", 40) + "slow 1;people 3;first 2;", 0, -1);
        for (String act : new String[] {"word 0 0;", "deny 0 0;", "wall 0 0 0;"}) {
            for (int n : new int[] {29, 30, 31, 32}) {
                int place = n <= 30 ? -1 : 30 * act.length();
                SaidBack x = read("5: " + n + " acts", 1, times(act, n), n <= 30 ? 0 : 3, place);
                DUE.is("5: " + n + " acts are told", x.act(0, -1, 0), n <= 30 ? n : -2);
                DUE.is("5: the last of " + n, x.act(0, n - 1, 1), n <= 30 ? 0 : -2);
            }
            read("5: a 31st act of another sort", 1, times("word 0 0;", 29) + "deny 0 0;\n" + act, 3, 271);
            read("5: a 30th act of another sort", 1, times("word 0 0;", 28) + "deny 0 0;\n" + act, 0, -1);
        }
    }

    /** "4 of a VILLAGE somebody was told of who is not there", at the end's place. */
    private static void nobodyThere() {
        for (int people : new int[] {1, 2, 3, 15, 16}) {
            for (int who = people - 2; who <= people; who++) {
                if (who < 0 || who > 15) {
                    continue;
                }
                int other = who == 0 ? 0 : who - 1;
                String[] lines = {"first " + who + ";", "once 0 " + who + " 0;", "doubt " + who + " 1;",
                    who == 0 ? "last 0;" : "tie " + who + " " + other + " 1 1;",
                    who == 0 ? "both 0;" : "tie " + other + " " + who + " 1 1;"};
                for (String line : lines) {
                    String text = "people " + people + ";" + line;
                    boolean there = who < people;
                    read("5: who is there", 0, text, there ? 0 : 4, there ? -1 : text.length());
                    read("5: who is there, blanks behind", 0, text + "\n ", there ? 0 : 4, there ? -1 : text.length() + 2);
                    text = line + "people " + people + ";";
                    read("5: who is there in the end", 0, text, there ? 0 : 4, there ? -1 : text.length());
                    text = "people 16;" + line + "people " + people + ";";
                    read("5: who is no more there", 0, text, there ? 0 : 4, there ? -1 : text.length());
                }
            }
        }
        read("5: two at first", 0, "first 1;", 0, -1);
        read("5: two at first, no third", 0, "first 2;", 4, 8);
        read("5: how much is nobody", 0, "doubt 1 99;tie 0 1 3 9;slow 3;tires 30 30;", 0, -1);
        read("5: of a telling everybody", 1, "word 0 15;deny 0 15;wall 39 0 0;", 0, -1);
    }

    // promises 4 and 5

    /** "VILLAGES, at most 2 (sort 0), TELLINGS, at most 3 (1)"; "-2: .. there are as many as may be". */
    private static void asManyAsMayBe() {
        for (int sort = 0; sort < 2; sort++) {
            int most = sort == 0 ? 2 : 3;
            SaidBack x = new SaidBack();
            for (int n = 0; n < most; n++) {
                DUE.is("4: none such yet " + n, x.text(sort, n), -2);
                DUE.is("4: number " + n + " of sort " + sort, Tapes.tell(x, sort, ""), n);
                DUE.is("39: as many of sort " + sort, x.count(sort), n + 1);
                DUE.is("39: none of the other sort", x.count(1 - sort), 0);
            }
            DUE.is("4: no more of sort " + sort, Tapes.tell(x, sort, ""), -2);
            DUE.is("39: no more of sort " + sort, x.count(sort), most);
            for (int at = 0; at < most; at++) {
                DUE.is("4: in the place of " + at, x.text(sort, at), at);
            }
            for (int at : new int[] {most, most + 1, -2, Integer.MIN_VALUE, Integer.MAX_VALUE}) {
                DUE.is("4: in the place of none " + at, x.text(sort, at), -2);
            }
            DUE.is("39: still no more of sort " + sort, x.count(sort), most);
        }
    }

    /** "-2: ..(the tape is empty then, too; no text is read, FAULT 0)." */
    private static void noTextIsRead() {
        SaidBack x = new SaidBack();
        Tapes.tell(x, 0, "");
        Tapes.tell(x, 0, "");
        int[][] calls = {{0, -1}, {0, 2}, {0, -2}, {1, 0}, {1, 3}, {-1, -1}, {-1, 0}, {2, -1}, {2, 0}, {3, 1},
            {Integer.MIN_VALUE, -1}, {Integer.MAX_VALUE, 0}};
        for (int[] call : calls) {
            String what = "4: text(" + call[0] + ", " + call[1] + ")";
            Tapes.tell(x, 1, "word 0 16;");
            DUE.is(what + ", a fault ahead", x.fault(0), 2);
            Tapes.feed(x, "people 3;x");
            DUE.is(what, x.text(call[0], call[1]), -2);
            DUE.is(what + ", fault 0", x.fault(0), 0);
            DUE.is(what + ", no place", x.fault(1), -1);
            DUE.is(what + ", the tape is empty", x.end(1), -1);
            DUE.is(what + ", villages", x.count(0), 2);
            DUE.is(what + ", tellings", x.count(1), 0);
            DUE.is(what + ", people", x.village(0, 0) + x.village(1, 0), 4);
        }
    }

    /** "NONE: a FAULT": nothing is told then, at NONE or in the place of one; the tape is empty then. */
    private static void byAFault() {
        SaidBack x = new SaidBack();
        Tapes.tell(x, 0, "people 5;last 4;tie 0 4 1 1;");
        Tapes.tell(x, 1, "word 7 1;");
        String[] villages = {"people 9;slow 3;x", "people 9;slow 4;", "people 9;" + times("tie 0 1 1 1;", 41), "people 9;most 9;"};
        for (int i = 0; i < villages.length; i++) {
            for (int at = -1; at <= 0; at++) {
                Tapes.feed(x, villages[i]);
                DUE.is("4: a fault " + (i + 1), x.text(0, at), -1);
                DUE.is("5: the fault " + (i + 1), x.fault(0), i + 1);
                DUE.is("4: no byte is left", x.end(1), -1);
                DUE.is("4: no further village", x.count(0), 1);
                DUE.is("4: its people stay", x.village(0, 0), 5);
                DUE.is("4: its kinds stay", x.village(0, 14), 1);
                DUE.is("4: its ties stay", x.village(0, 1), 1);
            }
        }
        Tapes.feed(x, "deny 0 0;deny 0 16;");
        DUE.is("4: a fault of a telling", x.text(1, 0), -1);
        DUE.is("4: its acts stay", x.act(0, -1, 0), 1);
        DUE.is("4: its act stays", x.act(0, 0, 1), 7);
        Tapes.feed(x, "deny 3 0;");
        DUE.is("4: in the place of one", x.text(1, 0), 0);
        DUE.is("4: another act", x.act(0, 0, 0), 1);
        Tapes.feed(x, "");
        DUE.is("4: an empty text in the place of one", x.text(0, 0), 0);
        DUE.is("4: all is as at first, people", x.village(0, 0), 2);
        DUE.is("4: all is as at first, ties", x.village(0, 1), 0);
        DUE.is("4: all is as at first, kinds", x.village(0, 11), 0);
        DUE.is("4: an empty telling in the place of one", x.text(1, 0), 0);
        DUE.is("4: no acts", x.act(0, -1, 0), 0);
    }

    /** "what 0: the FAULT, 0 without, 1: its place, NONE without. NONE for another what." */
    private static void faultsWhat() {
        SaidBack x = new SaidBack();
        for (String text : new String[] {"people 0;", "people 1;"}) {
            boolean fault = text.equals("people 0;");
            Tapes.tell(x, 0, text);
            DUE.is("5: what 0", x.fault(0), fault ? 2 : 0);
            DUE.is("5: what 1", x.fault(1), fault ? 7 : -1);
            for (int what : new int[] {-1, 2, 3, Integer.MIN_VALUE, Integer.MAX_VALUE}) {
                DUE.is("5: what " + what, x.fault(what), -1);
            }
        }
        Tapes.tell(x, 0, "!");
        DUE.is("5: a place of 0", x.fault(1), 0);
        x.feed(0, 0, 0, 0, 0);
        x.end(3);
        DUE.is("5: of the latest text() still", x.fault(0), 1);
    }

    // promises 6 to 8

    /** "10 + p: KIND of p, 30 + p: DOUBT. NONE: there is none such, or for another what." */
    private static void villagesWhat() {
        for (int people : new int[] {1, 2, 3, 15, 16}) {
            SaidBack x = Tapes.with("people " + people + ";once " + (people - 1) + ";doubt " + (people - 1) + " 99;tires 30 29;");
            for (int what = -1; what < 60; what++) {
                boolean kind = what >= 10 && what < 10 + people;
                boolean doubt = what >= 30 && what < 30 + people;
                int due = kind ? what == 9 + people ? 5 : 0 : doubt ? what == 29 + people ? 99 : 1 : -1;
                int[] first = {people, 0, 0, 30, 29};
                due = what >= 0 && what < 5 ? first[what] : due;
                DUE.is("6: of " + people + ", what " + what, x.village(0, what), due);
            }
            for (int what : new int[] {Integer.MIN_VALUE, Integer.MIN_VALUE + 9, Integer.MIN_VALUE + 10,
                Integer.MIN_VALUE + 30, Integer.MAX_VALUE}) {
                DUE.is("6: of " + people + ", what " + what, x.village(0, what), -1);
            }
            for (int village : new int[] {Integer.MIN_VALUE, -2, -1, 1, 2, Integer.MAX_VALUE}) {
                DUE.is("6: no village " + village, x.village(village, 0), -1);
            }
        }
    }

    /** "Of a TIE ..NONE: there is none such (of either), or for another what." */
    private static void tiesWhat() {
        for (int ties : new int[] {0, 1, 2, 39, 40}) {
            SaidBack x = Tapes.with("people 3;" + times("tie 2 1 3 9;", ties));
            int[] due = {2, 1, 3, 9};
            for (int tie : new int[] {Integer.MIN_VALUE, -2, -1, 0, 1, 2, 38, 39, 40, 41, Integer.MAX_VALUE}) {
                for (int what : new int[] {Integer.MIN_VALUE, -1, 0, 1, 2, 3, 4, Integer.MAX_VALUE}) {
                    boolean there = tie >= 0 && tie < ties && what >= 0 && what < 4;
                    DUE.is("7: of " + ties + " tie " + tie + ", " + what, x.tie(0, tie, what), there ? due[what] : -1);
                }
            }
            for (int village : new int[] {Integer.MIN_VALUE, -2, -1, 1, 2, Integer.MAX_VALUE}) {
                DUE.is("7: no village " + village, x.tie(village, 0, 0), -1);
            }
        }
    }

    /** "how many ACTS (act NONE, what 0) ..-2: there is none such (of any), or for another what." */
    private static void actsWhat() {
        for (int acts : new int[] {0, 1, 2, 29, 30}) {
            SaidBack x = Tapes.with("", times("deny 98 15;", acts));
            int[] due = {1, 98, 15, -1};
            for (int act : new int[] {Integer.MIN_VALUE, -2, -1, 0, 1, 2, 28, 29, 30, 31, Integer.MAX_VALUE}) {
                for (int what : new int[] {Integer.MIN_VALUE, -1, 0, 1, 2, 3, 4, Integer.MAX_VALUE}) {
                    boolean there = act >= 0 && act < acts && what >= 0 && what < 4;
                    int answer = act == -1 && what == 0 ? acts : there ? due[what] : -2;
                    DUE.is("8: of " + acts + " act " + act + ", " + what, x.act(0, act, what), answer);
                }
            }
            for (int telling : new int[] {Integer.MIN_VALUE, -2, -1, 1, 2, 3, Integer.MAX_VALUE}) {
                DUE.is("8: no telling " + telling, x.act(telling, -1, 0), -2);
                DUE.is("8: no telling's act " + telling, x.act(telling, 0, 0), -2);
            }
        }
    }

    // promises 39 to 41

    /** "-2 for another one." */
    private static void countOfSorts() {
        SaidBack x = Tapes.with("", "");
        for (int sort : new int[] {Integer.MIN_VALUE, -2, -1, 2, 3, Integer.MAX_VALUE}) {
            DUE.is("39: of " + sort, x.count(sort), -2);
        }
        DUE.is("39: of 0", x.count(0), 1);
        DUE.is("39: of 1", x.count(1), 1);
    }

    /** "Image k (0 .. 2) ..true; false for another k"; "false if there is none such." */
    private static void threeImages() {
        SaidBack x = new SaidBack();
        for (int k = 0; k < 3; k++) {
            DUE.is("41: none such yet " + k, x.again(k), false);
            Tapes.feed(x, times(" ", k + 1));
            DUE.is("40: image " + k, x.image(k), true);
            x.end(0);
        }
        for (int k : new int[] {Integer.MIN_VALUE, -2, -1, 3, 4, Integer.MAX_VALUE}) {
            DUE.is("40: no image " + k, x.image(k), false);
            DUE.is("41: no image " + k, x.again(k), false);
            DUE.is("41: nothing changes by " + k, x.end(1), -1);
        }
        for (int k : new int[] {2, 0, 1, 2}) {
            DUE.is("41: again " + k, x.again(k), true);
            DUE.is("41: its tape has no more, " + k, x.end(k + 2), -1);
            DUE.is("41: its tape " + k, x.end(k + 1), k + 1);
        }
    }

    /** "all that is told (the tape, the FAULT, too), as it is now": nothing, and as much as may be. */
    private static void imagesOfNothingAndOfAll() {
        SaidBack x = new SaidBack();
        x.image(0);
        Tapes.tell(x, 0, "people 16;" + times("tie 14 15 3 9;", 40));
        Tapes.tell(x, 0, "people 1;once 0;doubt 0 99;");
        for (int t = 0; t < 3; t++) {
            Tapes.tell(x, 1, times("wall 39 " + t + " 99;", 30));
        }
        Tapes.tell(x, 1, "");
        Tapes.feed(x, times(" ", 599) + "!");
        x.image(2);
        DUE.is("41: to nothing", x.again(0), true);
        DUE.is("41: no villages", x.count(0), 0);
        DUE.is("41: no tellings", x.count(1), 0);
        DUE.is("41: no tape", x.end(1), -1);
        DUE.is("41: no village 0", x.village(0, 0), -1);
        DUE.is("41: a village all the same", Tapes.tell(x, 0, "slow 3;"), 0);
        DUE.is("41: it has no ties", x.village(0, 1), 0);
        DUE.is("41: to all", x.again(2), true);
        DUE.is("41: villages", x.count(0), 2);
        DUE.is("41: tellings", x.count(1), 3);
        DUE.is("41: the 40th tie", x.tie(0, 39, 3), 9);
        DUE.is("41: the 16th doubt", x.village(0, 45), 1);
        DUE.is("41: the other's kind", x.village(1, 10), 5);
        DUE.is("41: the other's doubt", x.village(1, 30), 99);
        for (int t = 0; t < 3; t++) {
            DUE.is("41: the 30th act", x.act(t, 29, 2), t);
        }
        DUE.is("41: the fault, of no text", x.fault(0), 0);
        DUE.is("41: the tape", x.text(0, 1), -1);
        DUE.is("41: the tape's last byte", x.fault(1), 599);
        x.image(1);
        x.again(0);
        DUE.is("41: no fault", x.fault(0), 0);
        DUE.is("41: no place", x.fault(1), -1);
        x.again(1);
        DUE.is("41: the fault", x.fault(0), 1);
        DUE.is("41: its place", x.fault(1), 599);
    }

    /** "An object is used for at most 512 calls": the last one answers as the first one does. */
    private static void fiveHundredAndTwelve() {
        SaidBack x = new SaidBack();
        Tapes.feed(x, "people 3;till 0 1 2;tie 0 1 1 5;tie 1 2 1 5;tie 2 0 1 5;");
        x.text(0, -1);
        Tapes.feed(x, "word 0 0;");
        x.text(1, -1);
        for (int call = 9; call < 512; call++) {
            DUE.is("1: call " + call, call % 3 == 0 ? x.late(0, 0, 1) : x.holders(0, 0, 2, false), call % 3 == 0 ? 40 : 7);
        }
        DUE.is("1: call 512", x.holders(0, 0, 1, false), 3);
    }

    public static void main(String[] args) {
        nothingAtFirst();
        tapeOf600();
        textOf600();
        bytesInOrder();
        firstBytes();
        everyByte();
        digits();
        words();
        howManyNumbers();
        villagesNumbers();
        tellingsNumbers();
        tieToHimself();
        atFirst();
        laterOnes();
        faultOneAheadOfAll();
        firstByPlace();
        faultyLineCounts();
        fortyAndThirty();
        nobodyThere();
        asManyAsMayBe();
        noTextIsRead();
        byAFault();
        faultsWhat();
        villagesWhat();
        tiesWhat();
        actsWhat();
        countOfSorts();
        threeImages();
        imagesOfNothingAndOfAll();
        fiveHundredAndTwelve();
        DUE.end();
    }
}
