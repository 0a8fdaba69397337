/** Promises 1 to 8 and 39 to 41: the tape, the texts and their faults, what is told, images. */
public final class TellTest {
    private static final Due DUE = new Due("TellTest");
    private static final int[] EDGES = {Integer.MIN_VALUE, -3, -2, 999, Integer.MAX_VALUE};

    private static void aNewObject() {
        SaidBack x = new SaidBack();
        DUE.is("1: villages", x.count(0), 0);
        DUE.is("1: tellings", x.count(1), 0);
        DUE.is("1: tape", x.end(1), -1);
        for (int k = 0; k < 3; k++) {
            DUE.is("1: image " + k, x.again(k), false);
        }
        DUE.is("1: fault", x.fault(0), 0);
        DUE.is("1: fault's place", x.fault(1), -1);
        DUE.is("1: NONE", SaidBack.NONE, -1);
    }

    private static void feed() {
        SaidBack x = new SaidBack();
        for (int i = 1; i <= 29; i++) {
            DUE.is("2: feed " + i, x.feed(0, 0, 0, 0, 0), 20 * i);
        }
        DUE.is("2: end", x.end(579), 579);
        DUE.is("2: to 599", x.feed(1, 2, 3, 4, 5), 599);
        DUE.is("2: 619 would be too many", x.feed(1, 2, 3, 4, 5), -1);
        DUE.is("2: nothing came", x.end(600), -1);
        DUE.is("2: all stayed", x.end(599), 599);
        DUE.is("2: to 581", x.end(581), 581);
        DUE.is("2: 601 would be too many", x.feed(1, 2, 3, 4, 5), -1);
        DUE.is("2: to 580", x.end(580), 580);
        DUE.is("2: to 600", x.feed(1, 2, 3, 4, 5), 600);

        x = new SaidBack();
        // "slow" " 2;\n" and, the highest byte first, blanks
        x.feed(0x736c6f77, 0x20323b0a, 0x20202020, 0x0a0a0a0a, 0x20202020);
        DUE.is("2: the highest first", x.text(0, -1), 0);
        DUE.is("2: slow", x.village(0, 2), 2);
        x.feed(0xff202020, 0, 0, 0, 0);
        DUE.is("2: a byte of 255", x.text(0, 0), -1);
        DUE.is("2: a byte of 255", x.fault(1), 0);
    }

    private static void end() {
        SaidBack x = new SaidBack();
        DUE.is("3: of none", x.end(0), 0);
        DUE.is("3: below 0", x.end(-1), -1);
        x.feed(0x736c6f77, 0x20323b21, 0, 0, 0);
        DUE.is("3: more than it has", x.end(21), -1);
        DUE.is("3: far below 0", x.end(Integer.MIN_VALUE), -1);
        DUE.is("3: far more", x.end(Integer.MAX_VALUE), -1);
        DUE.is("3: all", x.end(20), 20);
        DUE.is("3: fewer", x.end(7), 7);
        DUE.is("3: gone", x.end(8), -1);
        DUE.is("3: the rest is the text", x.text(0, -1), 0);
        DUE.is("3: the tape is taken", x.end(1), -1);
    }

    private static void text() {
        SaidBack x = new SaidBack();
        DUE.is("4: first village", Tapes.tell(x, 0, "people 3;"), 0);
        DUE.is("4: second village", Tapes.tell(x, 0, "people 4;"), 1);
        Tapes.feed(x, "people !");
        DUE.is("4: no third", x.text(0, -1), -2);
        DUE.is("4: no text was read", x.fault(0), 0);
        DUE.is("4: no text was read, place", x.fault(1), -1);
        DUE.is("4: the tape is empty then, too", x.end(1), -1);
        for (int t = 0; t < 3; t++) {
            DUE.is("4: telling " + t, Tapes.tell(x, 1, "word 0 " + t + ";"), t);
        }
        DUE.is("4: no fourth telling", Tapes.tell(x, 1, ""), -2);
        Tapes.feed(x, "people 5;");
        DUE.is("4: in the place of one", x.text(0, 1), 1);
        DUE.is("4: no more of them", x.count(0), 2);
        DUE.is("4: the other stays", x.village(0, 0), 3);
        DUE.is("4: it is there", x.village(1, 0), 5);
        Tapes.feed(x, "deny 9 9;");
        DUE.is("4: a telling in the place of one", x.text(1, 2), 2);
        DUE.is("4: is there", x.act(2, 0, 0), 1);
        DUE.is("4: the other telling stays", x.act(1, 0, 0), 0);
        Tapes.feed(x, "people 6");
        DUE.is("4: a fault", x.text(0, 1), -1);
        DUE.is("4: by a fault nothing is told", x.village(1, 0), 5);
        DUE.is("4: by a fault the tape is taken", x.end(1), -1);
        for (int at : new int[] {-2, 2, 3, Integer.MAX_VALUE, Integer.MIN_VALUE}) {
            DUE.is("4: no village " + at, x.text(0, at), -2);
        }
        DUE.is("4: no telling 3", x.text(1, 3), -2);
        DUE.is("4: no telling -2", x.text(1, -2), -2);
        for (int sort : new int[] {-1, 2, Integer.MAX_VALUE}) {
            Tapes.feed(x, "people !");
            DUE.is("4: no sort " + sort, x.text(sort, 0), -2);
            DUE.is("4: no fault of no sort", x.fault(0), 0);
            DUE.is("4: nor a tape", x.end(1), -1);
        }
        x = new SaidBack();
        DUE.is("4: none such yet", x.text(0, 0), -2);
        DUE.is("4: an empty text", x.text(0, -1), 0);
        DUE.is("4: an empty telling", x.text(1, -1), 0);
        DUE.is("4: two people at first", x.village(0, 0), 2);
    }

    private static void fault(String text, int sort, int fault, int place) {
        SaidBack x = new SaidBack();
        int due = fault == 0 ? 0 : -1;
        String what = "5: '" + text.replace("\n", "\\n") + "'";
        DUE.is(what, Tapes.tell(x, sort, text), due);
        DUE.is(what + " fault", x.fault(0), fault);
        DUE.is(what + " place", x.fault(1), place);
        DUE.is(what + " count", x.count(sort), due + 1);
    }

    private static void faultOne() {
        fault("", 0, 0, -1);
        fault(" \n \n", 0, 0, -1);
        fault("people3;first0 1 2;last1;tie0 1 1 1;slow0;", 0, 0, -1);
        fault("\n people\n\n3\n;\n", 0, 0, -1);
        fault("people 03 ; slow 00 ;tires 00 07;", 0, 0, -1);
        fault("Person 3;", 0, 1, 0);
        fault("peopl 3;", 0, 1, 0);
        fault("peoples 3;", 0, 1, 0);
        fault("slow 1; word 0 0;", 0, 1, 8);
        fault("word 0 0;slow 1;", 1, 1, 9);
        fault("people;", 0, 1, 6);
        fault("people 3 3;", 0, 1, 9);
        fault("people 3", 0, 1, 8);
        fault("people 3 \n", 0, 1, 10);
        fault("people", 0, 1, 6);
        fault("people 003;", 0, 1, 7);
        fault("people 3;;", 0, 1, 9);
        fault(";", 0, 1, 0);
        fault("3;", 0, 1, 0);
        fault("first 1 0 x;", 0, 1, 10);
        fault("first 1 0 123;", 0, 1, 10);
        fault("first;", 0, 1, 5);
        fault("people\t3;", 0, 1, 6);
        fault("people 3\r;", 0, 1, 8);
        fault("people 3, 4;", 0, 1, 8);
        fault("doubt 1;", 0, 1, 7);
        fault("doubt 1 1 1;", 0, 1, 10);
        fault("tie 0 1 1;", 0, 1, 9);
        fault("tie 0 1 1 1 1;", 0, 1, 12);
        fault("slow;", 0, 1, 4);
        fault("tires 0 0 0;", 0, 1, 10);
        fault("word 0 1 2;", 1, 1, 9);
        fault("deny 0;", 1, 1, 6);
        fault("wall 0 1;", 1, 1, 8);
        fault("wall 0 1 1 1;", 1, 1, 11);
        fault("first 20;slow 9;tie 0", 0, 1, 21);
        fault("people 0;people\u00e9", 0, 1, 15);
        fault("people 3;\u0000", 0, 1, 9);
    }

    private static void faultTwo() {
        fault("people 1;", 0, 0, -1);
        fault("people 16;", 0, 0, -1);
        fault("people 0;", 0, 2, 7);
        fault("people 17;", 0, 2, 7);
        String[] kinds = {"first", "last", "most", "till", "both", "once"};
        for (String kind : kinds) {
            fault("people 16;" + kind + " 15;", 0, 0, -1);
            fault("people 16;" + kind + " 15 16;", 0, 2, 18 + (kind.length() - 4));
        }
        fault("doubt 1 99;", 0, 0, -1);
        fault("doubt 1 0;", 0, 2, 8);
        fault("doubt 16 0;", 0, 2, 6);
        fault("tie 0 1 1 1;tie 1 0 3 9;", 0, 0, -1);
        fault("tie 16 1 1 1;", 0, 2, 4);
        fault("tie 1 16 1 1;", 0, 2, 6);
        fault("tie 1 01 1 1;", 0, 2, 6);
        fault("tie 0 1 0 1;", 0, 2, 8);
        fault("tie 0 1 4 1;", 0, 2, 8);
        fault("tie 0 1 3 0;", 0, 2, 10);
        fault("tie 0 1 3 10;", 0, 2, 10);
        fault("slow 3;tires 30 30;", 0, 0, -1);
        fault("slow 4;", 0, 2, 5);
        fault("tires 31 0;", 0, 2, 6);
        fault("tires 30 31;", 0, 2, 9);
        fault("word 99 15;deny 0 0;wall 39 0 99;wall 0 5 5;", 1, 0, -1);
        fault("word 0 16;", 1, 2, 7);
        fault("deny 99 16;", 1, 2, 8);
        fault("wall 40 0 0;", 1, 2, 5);
        fault("wall 0 5 4;", 1, 2, 9);
        fault("slow 4;people 0;", 0, 2, 5);
        fault("people 0;people 3;", 0, 2, 7);
        fault("people 1;slow 4;", 0, 2, 14);
    }

    private static String times(String line, int n) {
        StringBuilder b = new StringBuilder();
        for (int i = 0; i < n; i++) {
            b.append(line);
        }
        return b.toString();
    }

    private static void faultThreeAndFour() {
        fault(times("tie 0 1 1 1;", 40), 0, 0, -1);
        fault(times("tie 0 1 1 1;", 41), 0, 3, 480);
        fault(times("tie 0 1 1 1;", 40) + " tie 0 0 1 1;tie 0 1 1 1;", 0, 3, 481);
        fault("slow 4;" + times("tie 0 1 1 1;", 41), 0, 2, 5);
        fault("tie 0 0 1 1;" + times("tie 0 1 1 1;", 40), 0, 2, 6);
        fault(times("tie 0 1 1 1;", 41) + "slow 4;", 0, 3, 480);
        fault(times("tie 0 1 1 1;", 41) + "slow;", 0, 1, 496);
        fault(times("tie 0 1 1 1;", 40) + "slow 2;first 1;", 0, 0, -1);
        fault(times("word 0 0;", 30), 1, 0, -1);
        fault(times("word 0 0;", 30) + "\nwall 0 0 0;", 1, 3, 271);
        fault(times("wall 0 0 0;", 30) + "deny 0 0;", 1, 3, 330);
        fault(times("wall 0 0 0;", 30) + "deny 0 16;", 1, 3, 330);
        fault(times("deny 0 0;", 31) + "deny", 1, 1, 283);

        fault("first 1;", 0, 0, -1);
        fault("first 2;", 0, 4, 8);
        fault("first 2; \n", 0, 4, 10);
        fault("first 2;people 3;", 0, 0, -1);
        fault("people 3;first 2;people 2;", 0, 4, 26);
        fault("people 3;doubt 3 1;", 0, 4, 19);
        fault("people 3;doubt 2 3;", 0, 0, -1);
        fault("tie 2 0 1 1;", 0, 4, 12);
        fault("tie 0 2 1 1;", 0, 4, 12);
        fault("people 3;tie 0 2 3 9;slow 3;", 0, 0, -1);
        fault("people 1;once 0;", 0, 0, -1);
        fault("people 1;once 0 1 0;", 0, 4, 20);
        fault("word 0 15;", 1, 0, -1);
        SaidBack x = new SaidBack();
        Tapes.tell(x, 0, "people 0;");
        for (int what : new int[] {-1, 2, Integer.MIN_VALUE, Integer.MAX_VALUE}) {
            DUE.is("5: fault " + what, x.fault(what), -1);
        }
        DUE.is("5: of the latest text", x.fault(0), 2);
        Tapes.tell(x, 0, "people 2;");
        DUE.is("5: of the latest text alone", x.fault(0), 0);
        DUE.is("5: of the latest text alone, place", x.fault(1), -1);
    }

    private static void village() {
        SaidBack x = Tapes.with("people 7;last 1;most 2 ;till 3;both 4;once 5;first 6;last 6 1;doubt 3 99;"
            + "doubt 3 98;slow 1;slow 3;tires 1 2;tires 29 30;tie 0 1 1 1;");
        int[] kinds = {0, 1, 2, 3, 4, 5, 1};
        for (int p = 0; p < 7; p++) {
            DUE.is("6: kind of " + p, x.village(0, 10 + p), kinds[p]);
            DUE.is("6: doubt of " + p, x.village(0, 30 + p), p == 3 ? 98 : 1);
        }
        int[] due = {7, 1, 3, 29, 30, -1, -1, -1, -1, -1};
        for (int what = 0; what < 10; what++) {
            DUE.is("6: village " + what, x.village(0, what), due[what]);
        }
        for (int what : new int[] {-1, 17, 25, 26, 29, 37, 46, Integer.MAX_VALUE, Integer.MIN_VALUE}) {
            DUE.is("6: no what " + what, x.village(0, what), -1);
        }
        for (int village : EDGES) {
            DUE.is("6: no village " + village, x.village(village, 0), -1);
        }
        DUE.is("6: no village 1", x.village(1, 0), -1);
        DUE.is("6: no village -1", x.village(-1, 0), -1);
        x = Tapes.with("");
        int[] first = {2, 0, 0, 0, 0};
        for (int what = 0; what < 5; what++) {
            DUE.is("6: at first " + what, x.village(0, what), first[what]);
        }
        DUE.is("6: kind at first", x.village(0, 11), 0);
        DUE.is("6: doubt at first", x.village(0, 31), 1);
    }

    private static void tie() {
        SaidBack x = Tapes.with("people 16;tie 15 0 3 9;tie 3 4 2 8;tie 3 4 2 8;");
        int[] due = {15, 0, 3, 9};
        for (int what = 0; what < 4; what++) {
            DUE.is("7: what " + what, x.tie(0, 0, what), due[what]);
        }
        DUE.is("7: further ones", x.village(0, 1), 3);
        DUE.is("7: the second", x.tie(0, 1, 3), 8);
        DUE.is("7: the third", x.tie(0, 2, 0), 3);
        DUE.is("7: no fourth", x.tie(0, 3, 0), -1);
        DUE.is("7: no what 4", x.tie(0, 0, 4), -1);
        DUE.is("7: no what -1", x.tie(0, 0, -1), -1);
        DUE.is("7: no village 1", x.tie(1, 0, 0), -1);
        for (int edge : EDGES) {
            DUE.is("7: no tie " + edge, x.tie(0, edge, 0), -1);
            DUE.is("7: no village " + edge, x.tie(edge, 0, 0), -1);
            DUE.is("7: no what " + edge, x.tie(0, 0, edge), -1);
        }
    }

    private static void act() {
        SaidBack x = new SaidBack();
        DUE.is("8: no telling", x.act(0, -1, 0), -2);
        Tapes.tell(x, 1, "word 99 15;deny 98 14;wall 39 0 99;word 0 0;");
        int[][] due = {{0, 99, 15, -1}, {1, 98, 14, -1}, {2, 39, 0, 99}, {0, 0, 0, -1}};
        DUE.is("8: how many", x.act(0, -1, 0), 4);
        for (int act = 0; act < 4; act++) {
            for (int what = 0; what < 4; what++) {
                DUE.is("8: act " + act + " " + what, x.act(0, act, what), due[act][what]);
            }
            DUE.is("8: no what 4", x.act(0, act, 4), -2);
            DUE.is("8: no what -1", x.act(0, act, -1), -2);
        }
        DUE.is("8: no act 4", x.act(0, 4, 0), -2);
        DUE.is("8: how many of what 1", x.act(0, -1, 1), -2);
        DUE.is("8: no telling 1", x.act(1, -1, 0), -2);
        DUE.is("8: no telling -1", x.act(-1, -1, 0), -2);
        for (int edge : EDGES) {
            DUE.is("8: no act " + edge, x.act(0, edge, 0), -2);
            DUE.is("8: no telling " + edge, x.act(edge, 0, 0), -2);
            DUE.is("8: no what " + edge, x.act(0, 0, edge), -2);
        }
        Tapes.tell(x, 1, "");
        DUE.is("8: without acts", x.act(1, -1, 0), 0);
    }

    private static void count() {
        SaidBack x = Tapes.with("", "", "");
        DUE.is("39: villages", x.count(0), 1);
        DUE.is("39: tellings", x.count(1), 2);
        for (int sort : new int[] {-1, 2, 3, Integer.MAX_VALUE, Integer.MIN_VALUE}) {
            DUE.is("39: of " + sort, x.count(sort), -2);
        }
    }

    private static void images() {
        SaidBack x = Tapes.with("people 3;tie 0 1 2 4;last 2;doubt 1 7;slow 2;tires 3 4;", "word 1 2;");
        Tapes.tell(x, 1, "word 0 16;");
        Tapes.feed(x, "people 9;");
        DUE.is("40: image 0", x.image(0), true);
        DUE.is("40: image 2", x.image(2), true);
        for (int k : new int[] {-1, 3, Integer.MAX_VALUE, Integer.MIN_VALUE}) {
            DUE.is("40: no image " + k, x.image(k), false);
            DUE.is("41: no image " + k, x.again(k), false);
        }
        DUE.is("41: none such yet", x.again(1), false);
        DUE.is("41: by none such all stays", x.count(0), 1);
        x.end(0);
        Tapes.feed(x, "people 5;tie 3 4 1 1;most 0;");
        x.text(0, 0);
        Tapes.tell(x, 0, "");
        Tapes.feed(x, "deny 5 0;deny 5 1;");
        x.text(1, 0);
        Tapes.tell(x, 1, "");
        Tapes.feed(x, "slow 1;");
        DUE.is("40: image 1", x.image(1), true);
        DUE.is("41: again 0", x.again(0), true);
        DUE.is("41: people", x.village(0, 0), 3);
        DUE.is("41: tie", x.tie(0, 0, 3), 4);
        DUE.is("41: kind", x.village(0, 12), 1);
        DUE.is("41: kind of 0", x.village(0, 10), 0);
        DUE.is("41: doubt", x.village(0, 31), 7);
        DUE.is("41: slow", x.village(0, 2), 2);
        DUE.is("41: tires", x.village(0, 3), 3);
        DUE.is("41: tires of the denial", x.village(0, 4), 4);
        DUE.is("41: villages", x.count(0), 1);
        DUE.is("41: tellings", x.count(1), 1);
        DUE.is("41: acts", x.act(0, -1, 0), 1);
        DUE.is("41: act", x.act(0, 0, 2), 2);
        DUE.is("41: fault", x.fault(0), 2);
        DUE.is("41: fault's place", x.fault(1), 7);
        DUE.is("41: the tape", x.end(10), -1);
        DUE.is("41: the tape", x.text(0, -1), 1);
        DUE.is("41: the tape's text", x.village(1, 0), 9);
        DUE.is("41: the image stays", x.again(0), true);
        DUE.is("41: the image stayed", x.count(0), 1);
        DUE.is("41: again 1", x.again(1), true);
        DUE.is("41: people of 1", x.village(0, 0), 5);
        DUE.is("41: villages of 1", x.count(0), 2);
        DUE.is("41: acts of 1", x.act(0, -1, 0), 2);
        DUE.is("41: the tape of 1", x.text(0, 0), 0);
        DUE.is("41: slow", x.village(0, 2), 1);
        DUE.is("40: in the place of an image", x.image(0), true);
        DUE.is("41: again 2", x.again(2), true);
        DUE.is("41: as it was", x.village(0, 2), 2);
        DUE.is("41: again 0, the newer", x.again(0), true);
        DUE.is("41: as it is now", x.village(0, 2), 1);
    }

    public static void main(String[] args) {
        aNewObject();
        feed();
        end();
        text();
        faultOne();
        faultTwo();
        faultThreeAndFour();
        village();
        tie();
        act();
        count();
        images();
        DUE.end();
    }
}
