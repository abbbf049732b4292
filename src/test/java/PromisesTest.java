/** Each promise by number: ordinary inputs, the edges that the document names, wrong inputs. */
public final class PromisesTest {
    private static final int BAD = -1, NOT = -2, FULL = -3, STATE = -5, VOID = -2000000000;
    private static final int LEAST = Integer.MIN_VALUE, MOST = Integer.MAX_VALUE;

    public static void main(String[] args) {
        p1();
        p2();
        p3();
        p4();
        p5();
        p6();
        p7();
        p8();
        p8faults();
        p9();
        p10();
        p11();
        p12();
        p13();
        p14();
        p15();
        p16();
        p17();
        p18();
        p19();
        p20();
        p21();
        p22();
        p23();
        p24();
        p25();
        p26();
        p27();
        p28();
        p29();
        p30and31();
        p32and33();
        p34();
        p35and36();
        p37();
        p38();
        p39and40();
        p41();
        p42();
        p43();
        Due.end();
    }

    private static int told(BeggarBridge x, String text) {
        for (int i = 0; i < text.length(); i++) {
            x.feed(text.charAt(i));
        }
        return x.law();
    }

    /** A county of n bridges in a row, 0-1, 1-2 .., of span 4. */
    private static BeggarBridge line(int n) {
        BeggarBridge x = new BeggarBridge();
        for (int k = 0; k < n; k++) {
            x.bridge(11 * k + 1, 4);
        }
        return x;
    }

    private static void bytes(BeggarBridge x, int shelf, int... v) {
        x.row(shelf, 0, v.length);
        for (int i = 0; i < v.length; i++) {
            x.put(shelf, i, v[i]);
        }
    }

    private static void p1() {
        BeggarBridge x = new BeggarBridge();
        for (int what = 0; what < 6; what++) {
            Due.is("1: count(" + what + ")", x.count(what), 0);
        }
        Due.is("1: POOR", x.of(0, 7), 9);
        Due.is("1: DAY", x.of(0, 8), 0);
        for (int what = 0; what < 5; what++) {
            Due.is("1: led(" + what + ")", x.led(what), 0);
        }
        for (int shelf = 0; shelf < 6; shelf++) {
            Due.is("1: put(" + shelf + ", 0, 0)", x.put(shelf, 0, 0), -11);
        }
        Due.is("1: undo()", x.undo(), STATE);
        Due.is("1: redo()", x.redo(), STATE);
        Due.is("1: back()", x.back(), STATE);
        Due.is("1: trace(0)", x.trace(0), BAD);
        Due.is("1: two objects have no part of each other", line(3).count(0) + x.count(0), 3);
    }

    private static void p2() {
        BeggarBridge x = new BeggarBridge();
        int[][] wrong = {{0, 1}, {77, 1}, {8, 1}, {80, 1}, {18, 1}, {79, 1}, {-1, 1}, {-10, 1}, {100, 1}, {1, 0},
            {1, 10}, {1, -1}, {LEAST, 1}, {MOST, 1}, {1, LEAST}, {1, MOST}};
        for (int[] w : wrong) {
            Due.is("2: bridge(" + w[0] + ", " + w[1] + ")", x.bridge(w[0], w[1]), BAD);
        }
        Due.is("2: what is BAD changes nothing", x.count(0), 0);
        Due.is("2: bridge(70, 9)", x.bridge(70, 9), 0);
        Due.is("2: FROM", x.of(0, 9), 7);
        Due.is("2: TO", x.of(0, 10), 0);
        Due.is("2: SPAN", x.of(0, 0), 9);
        Due.is("2: SOUND at first", x.of(0, 1), 99);
        Due.is("2: ALMS at first", x.of(0, 2), 3);
        for (int k = 1; k < 8; k++) {
            Due.is("2: the same places again", x.bridge(7, 1), k);
        }
        Due.is("2: a ninth", x.bridge(7, 1), FULL);
        Due.is("2: BAD is named ahead of FULL", x.bridge(7, 0), BAD);
        Due.is("2: BAD is named ahead of FULL", x.bridge(77, 1), BAD);
    }

    private static void p3() {
        BeggarBridge x = new BeggarBridge();
        int[][] wrong = {{-1, 0}, {10, 0}, {0, -1}, {0, 10}, {LEAST, 0}, {0, MOST}};
        for (int[] w : wrong) {
            Due.is("3: beggar(" + w[0] + ", " + w[1] + ")", x.beggar(w[0], w[1]), BAD);
        }
        Due.is("3: beggar(9, 0)", x.beggar(9, 0), 0);
        Due.is("3: MEANS at first", x.of(0, 3), 0);
        Due.is("3: ASKS", x.of(0, 4), 9);
        Due.is("3: SPENDS", x.of(0, 5), 0);
        Due.is("3: SITS at first", x.of(0, 6), -1);
        for (int b = 1; b < 9; b++) {
            Due.is("3: beggar(0, 9)", x.beggar(0, 9), b);
        }
        Due.is("3: a tenth", x.beggar(0, 9), FULL);
        Due.is("3: BAD is named ahead of FULL", x.beggar(10, 9), BAD);
    }

    private static void p4() {
        BeggarBridge x = line(2);
        Due.is("4: a row that is missing", x.beggars(0, 0, 1), 0);
        bytes(x, 0, 99, 9, 0, 1, 0, 0, 9, -1, 5, 4, 3);
        Due.is("4: no such shelf", x.beggars(6, 0, 1), BAD);
        Due.is("4: no such shelf", x.beggars(-1, 0, 1), BAD);
        Due.is("4: n 0", x.beggars(0, 0, 0), BAD);
        Due.is("4: n 10", x.beggars(0, 0, 10), BAD);
        Due.is("4: n 10 of a missing row", x.beggars(1, 0, 10), BAD);
        Due.is("4: a place below 0", x.beggars(0, -1, 1), 0);
        Due.is("4: the least place", x.beggars(0, LEAST, 1), 0);
        Due.is("4: the greatest place", x.beggars(0, MOST, 1), 0);
        Due.is("4: ends within a four", x.beggars(0, 8, 1), 0);
        Due.is("4: behind the end", x.beggars(0, 11, 1), 0);
        Due.is("4: fewer than wanted", x.beggars(0, 0, 1), 1);
        Due.is("4: the row ends", x.beggars(0, 4, 9), 1);
        int[] due = {99, 9, 0, 1, 0, 0, 9, -1};
        for (int i = 0; i < 8; i++) {
            Due.is("4: a number that came", x.of(i / 4, 3 + i % 4), due[i]);
        }
        int[][] wrong = {{100, 0, 0, 0}, {-1, 0, 0, 0}, {0, 10, 0, 0}, {0, -1, 0, 0}, {0, 0, 10, 0}, {0, 0, -1, 0},
            {0, 0, 0, 2}, {0, 0, 0, -2}};
        for (int[] w : wrong) {
            bytes(x, 1, w);
            Due.is("4: one that is not so", x.beggars(1, 0, 1), 0);
        }
        x.row(2, 1, 8);
        Due.is("4: shorts", x.beggars(2, 0, 1), -12);
        x.row(2, 4, 8);
        Due.is("4: booleans", x.beggars(2, 0, 1), -12);
        x.body(0);
        x.keep(2, 0);
        Due.is("4: an ARCH", x.beggars(2, 0, 1), -12);
        x.row(3, 0, 60);
        Due.is("4: until they are FULL", x.beggars(3, 0, 9), 7);
        Due.is("4: FULL already", x.beggars(3, 0, 9), 0);
        Due.is("4: how many now", x.count(1), 9);
        Due.is("4: no change that may be undone", x.count(3), 0);
        BeggarBridge y = line(1);
        bytes(y, 0, 1, 1, 1, 0, 2, 2, 2, 1, 3, 3, 3, 0);
        Due.is("4: those ahead of one that is not so", y.beggars(0, 0, 3), 1);
        Due.is("4: those ahead came", y.count(1), 1);
        Due.is("4: from a place on", y.beggars(0, 8, 3), 1);
        Due.is("4: its MEANS", y.of(1, 3), 3);
    }

    private static void p5() {
        BeggarBridge x = line(2);
        x.beggar(4, 4);
        int[] least = {1, 0, 0, 0, 0, 0, -1, 0, 0};
        int[] most = {9, 99, 9, 99, 9, 9, 1, 99, 6};
        int[] first = {4, 99, 3, 0, 4, 4, -1, 9, 0};
        for (int what = 0; what < 9; what++) {
            String name = "5: mend of " + what;
            Due.is(name + ", too little", x.mend(0, what, least[what] - 1), VOID);
            Due.is(name + ", too much", x.mend(0, what, most[what] + 1), VOID);
            Due.is(name + ", far too little", x.mend(0, what, LEAST), VOID);
            Due.is(name + ", far too much", x.mend(0, what, MOST), VOID);
            Due.is(name + ", what it was", x.mend(0, what, least[what]), first[what]);
            Due.is(name + ", what it was", x.mend(0, what, most[what]), least[what]);
            Due.is(name + ", what it is", x.of(0, what), most[what]);
            Due.is(name + ", no such number", x.mend(what < 3 ? 2 : 1, what, 1), VOID);
            Due.is(name + ", no such number", x.mend(-1, what, 1), VOID);
        }
        Due.is("5: what -1", x.mend(0, -1, 1), VOID);
        Due.is("5: what 9", x.mend(0, 9, 1), VOID);
        Due.is("5: what 10", x.mend(0, 10, 1), VOID);
        Due.is("5: FROM stays", x.of(0, 9), 0);
        Due.is("5: of bridge 1", x.mend(1, 0, 7), 4);
        Due.is("5: bridge 0 stays", x.of(0, 0), 9);
        BeggarBridge y = new BeggarBridge();
        y.beggar(1, 1);
        Due.is("5: no bridge to sit on", y.mend(0, 6, 0), VOID);
        Due.is("5: nowhere", y.mend(0, 6, -1), -1);
    }

    private static void p6() {
        BeggarBridge x = line(1);
        x.bridge(53, 2);
        x.beggar(1, 2);
        Due.is("6: FROM", x.of(1, 9), 5);
        Due.is("6: TO", x.of(1, 10), 3);
        Due.is("6: ASKS", x.of(0, 4), 1);
        Due.is("6: SPENDS", x.of(0, 5), 2);
        for (int what = -1; what < 12; what++) {
            int beyond = what >= 3 && what <= 6 || what == 7 || what == 8 ? 1 : 2;
            Due.is("6: of(" + beyond + ", " + what + ")", x.of(beyond, what), VOID);
            Due.is("6: of(-1, " + what + ")", x.of(-1, what), VOID);
        }
        Due.is("6: of(0, 11)", x.of(0, 11), VOID);
        Due.is("6: of(0, -1)", x.of(0, -1), VOID);
        Due.is("6: of(0, least)", x.of(0, LEAST), VOID);
    }

    private static void p7() {
        BeggarBridge x = new BeggarBridge();
        Due.is("7: feed(-1)", x.feed(-1), BAD);
        Due.is("7: feed(256)", x.feed(256), BAD);
        Due.is("7: feed(0)", x.feed(0), 1);
        Due.is("7: feed(255)", x.feed(255), 2);
        for (int i = 3; i <= 120; i++) {
            Due.is("7: feed", x.feed('s'), i);
        }
        Due.is("7: FULL", x.feed('s'), FULL);
        Due.is("7: BAD ahead of FULL", x.feed(256), BAD);
        Due.is("7: how many", x.count(2), 120);
    }

    /** What the law gives for SPAN 4, one with nothing, two with more, ALMS 3, DAY 5, SOUND 90. */
    private static int given(String text) {
        BeggarBridge x = line(1);
        x.mend(0, 1, 90);
        x.mend(0, 8, 5);
        for (int b = 0; b < 3; b++) {
            x.beggar(1, 1);
            x.sits(b, 0);
            x.mend(b, 3, b == 0 ? 9 : 10);
        }
        int answer = told(x, text);
        return answer == 1 ? x.cracks(0) : answer;
    }

    private static void p8() {
        String[] texts = {"s", "h", "r", "a", "d", "x/9", "x", "0", "20", "21", "-1", "0007", "9999%8", "7-2-1",
            "2+3*4", "(2+3)*4", "20/3/2", "7%4*2", "-7/2+9", "-7%4+9", "5/0", "5%0+1", "!0", "!7", "!!7", "--7",
            "-!0+3", "3|0", "0|0", "3&4", "3&0", "1|1&0", "2<3", "3<3", "3=3", "3>2", "1+(2<3)*5", "2<3+1",
            "0?5", "1?5", "0?5;6", "2?5;6", "0?5;0?6", "0?5;0?6;7", "s=4?s+1;9", "1;2", "0;2", "1<2&3>2|0",
            "9999*9999*9999*9999%20", "1?0;5", "(0?5", "1=1=1", "h+r+a+d", "s*(h-r)", "((((((s))))))", "!-!-!-s",
            "2*(-(-(-3)))+19", "0|2?3;4", "(-9999*9999*22)/9999/9999"};
        int[] due = {4, 1, 2, 3, 5, 10, 20, 0, 20, 20, 0, 7, 7, 4,
            14, 20, 3, 6, 6, 6, 0, 1, 1, 0, 1, 7,
            2, 1, 0, 1, 0, 1, 1, 0, 1, 1, 6, 1,
            0, 5, 6, 5, 0, 7, 5, 1, 0, 1,
            Math.max(0, 9999 * 9999 * 9999 * 9999 % 20), 0, -102, -103, 11, 0, 4, 0,
            13, 3, 20};
        for (int i = 0; i < texts.length; i++) {
            Due.is("8: " + texts[i], given(texts[i]), due[i]);
        }
        BeggarBridge x = line(1);
        Due.is("8: a law", told(x, "7"), 1);
        Due.is("8: THE TAPE is empty then", x.count(2), 0);
        Due.is("8: a fault", told(x, "8;"), -102);
        Due.is("8: THE TAPE is empty then, too", x.count(2), 0);
        Due.is("8: the law stays", x.cracks(0), 7);
        Due.is("8: an empty tape", x.law(), -100);
        Due.is("8: the law stays", x.cracks(0), 7);
        Due.is("8: another law", told(x, "8"), 1);
        Due.is("8: by the other law", x.cracks(0), 8);
        StringBuilder longest = new StringBuilder("h");
        while (longest.length() < 119) {
            longest.append("+h");
        }
        Due.is("8: 119 bytes", told(x, longest.toString()), 1);
        Due.is("8: 120 bytes", told(x, "-" + longest), 1);
        StringBuilder sum = new StringBuilder("0");
        while (sum.length() < 117) {
            sum.append("+0");
        }
        Due.is("8: all steps of a long text count", given(sum + "+7"), 7);
        Due.is("8: all steps of a longest text count", given("-" + sum + "+8"), 8);
        StringBuilder lines = new StringBuilder("0");
        while (lines.length() < 119) {
            lines.append(";0");
        }
        Due.is("8: 60 lines", told(x, lines.toString()), 1);
        Due.is("8: the first of them counts", x.cracks(0), 0);
        StringBuilder unlikely = new StringBuilder();
        while (unlikely.length() < 116) {
            unlikely.append("0?3;");
        }
        Due.is("8: the last of many lines", given(unlikely + "5"), 5);
    }

    private static void p8faults() {
        String[] texts = {"", " s", "s ", "s;", ";s", "s?", "?s", "s?s?s", "s;s?", "s?s;", "s+", "s++s", "s+-s", "s-+s",
            "s<s<s", "s<s&s<s", "s<s=s", "(s<s)<s", "s<(s<s", "(", "()", "(s", "(s?s)", "(s;s)", "s)", "12345", "1234",
            "1s", "s1", "ss", "q", "S", "s(", "s!", "!", "-", "*s", "/s", "s**s", "s==s", "s||s", "s&&s", "s|", "s&",
            "(((((((s", "!!!!!!!s", "------s", "-------s", "!(!(!(!(s", "((((((-s", "((((((s))))))+((((((s))))))",
            "((((((s)))))))", "((((((s))))))?((((((s))))));!!!!!!s", "s?(((((((s", "-s-s-s-s-s-s-s-s", "(s)s", "(12345)", "s,s", "s?(s?s)", "h<1?2;r>0?12345", "!(s", "s%",
            "!!!!!!(", "-(-(-(s)))+-(-(-(s)))", "s<s|s<s|s<s&s<s<s"};
        int[] due = {0, 0, 1, 2, 0, 2, 0, 3, 4, 4, 2, 2, -1, 2,
            3, -1, 3, -1, 6, 1, 1, 2, 2, 2, 1, 4, -1,
            1, 1, 1, 0, 0, 1, 1, 1, 1, 0, 0, 2, 2, 2, 2, 2, 2,
            6, 6, -1, 6, 6, 6, -1,
            13, -1, 8, -1, 3, 5, 1, 4, 14, 3, 2,
            6, -1, 15};
        for (int i = 0; i < texts.length; i++) {
            Due.is("8: law() of " + texts[i], told(new BeggarBridge(), texts[i]), due[i] < 0 ? 1 : -100 - due[i]);
        }
        BeggarBridge x = new BeggarBridge();
        x.feed('s');
        x.feed(200);
        Due.is("8: a byte above 127", x.law(), -101);
        x.feed(0);
        Due.is("8: a byte 0", x.law(), -100);
    }

    private static void p9() {
        BeggarBridge x = line(2);
        Due.is("9: without a text, SPAN by 2", x.cracks(0), 2);
        x.mend(0, 0, 9);
        Due.is("9: cut", x.cracks(0), 4);
        x.mend(0, 1, 0);
        Due.is("9: whether it STANDS or not", x.cracks(0), 4);
        for (int b = 0; b < 9; b++) {
            x.beggar(1, 1);
            x.sits(b, 0);
            x.mend(b, 3, 10);
        }
        Due.is("9: held within 20", x.cracks(0), 20);
        x.mend(0, 7, 10);
        Due.is("9: held within 0", x.cracks(0), 0);
        x.mend(0, 7, 9);
        for (int b = 0; b < 6; b++) {
            x.sits(b, 1);
        }
        Due.is("9: with three who have more", x.cracks(0), 10);
        x.mend(6, 3, 9);
        Due.is("9: with two of them, and one with nothing", x.cracks(0), 4);
        Due.is("9: no such bridge", x.cracks(2), BAD);
        Due.is("9: no such bridge", x.cracks(-1), BAD);
    }

    private static void p10() {
        BeggarBridge x = line(1);
        x.beggar(9, 2);
        x.beggar(2, 2);
        x.mend(0, 3, 95);
        x.mend(1, 3, 30);
        Due.is("10: now", x.later(0, 0, 0), 99);
        Due.is("10: a bridge behind 7 days", x.later(7, 0, 0), 85);
        Due.is("10: it is 0 at least", x.later(60, 0, 0), 0);
        Due.is("10: who sits nowhere spends", x.later(7, 1, 1), 16);
        Due.is("10: MEANS are 0 at least", x.later(60, 1, 1), 0);
        x.mend(0, 2, 9);
        x.sits(0, 0);
        Due.is("10: MEANS are 99 at most", x.later(1, 0, 1), 99);
        Due.is("10: within 99 at once", x.later(2, 0, 1), 99);
        // 99 by 4 a day: 25 days it stands, of these the last falls; behind that he only spends
        Due.is("10: SOUND with one who has more", x.later(24, 0, 0), 3);
        Due.is("10: on the day it falls he still has alms", x.later(25, 0, 1), 99);
        Due.is("10: without a bridge that STANDS he only spends", x.later(27, 0, 1), 95);
        Due.is("10: nothing passed in deed", x.of(0, 1), 99);
        Due.is("10: n -1", x.later(-1, 0, 0), BAD);
        Due.is("10: n 61", x.later(61, 0, 0), BAD);
        Due.is("10: no such bridge", x.later(0, 1, 0), BAD);
        Due.is("10: no such beggar", x.later(0, 2, 1), BAD);
        Due.is("10: what 2", x.later(0, 0, 2), BAD);
        Due.is("10: what -1", x.later(0, 0, -1), BAD);
        BeggarBridge y = line(1);
        told(y, "d");
        y.mend(0, 8, 5);
        Due.is("10: by the DAY, 5 6 0 1", y.later(4, 0, 0), 87);
        y.mend(0, 2, 3);
        y.beggar(5, 1);
        y.sits(0, 0);
        Due.is("10: ALMS, if these are less than ASKS", y.later(2, 0, 1), 4);
        y.mend(0, 4, 2);
        Due.is("10: ASKS, if that is less", y.later(2, 0, 1), 2);
        told(y, "r*9");
        y.mend(0, 3, 9);
        Due.is("10: all as it stands when the day begins", y.later(1, 0, 0), 99);
        Due.is("10: the day behind", y.later(2, 0, 0), 90);
    }

    private static void p11() {
        BeggarBridge x = line(3);
        x.mend(1, 1, 5);
        x.mend(2, 1, 0);
        x.beggar(1, 1);
        x.beggar(1, 4);
        x.mend(1, 3, 14);
        Due.is("11: which STAND now", x.county(0, 0), 3);
        Due.is("11: behind 2 days", x.county(2, 0), 3);
        Due.is("11: behind 3 days", x.county(3, 0), 1);
        Due.is("11: SOUND of all", x.county(2, 1), 95 + 1);
        Due.is("11: who has nothing now", x.county(0, 2), 1);
        Due.is("11: behind a day", x.county(1, 2), 1);
        Due.is("11: behind two", x.county(2, 2), 3);
        Due.is("11: behind 60 days", x.county(60, 1), 0);
        Due.is("11: n 61", x.county(61, 0), BAD);
        Due.is("11: n -1", x.county(-1, 0), BAD);
        Due.is("11: what 3", x.county(0, 3), BAD);
        Due.is("11: what -1", x.county(0, -1), BAD);
    }

    private static void p12() {
        BeggarBridge x = line(3);
        Due.is("12: behind 50 days", x.falls(2), 50);
        Due.is("12: of like ones the least", x.falls(-1), 0);
        x.mend(1, 1, 98);
        Due.is("12: which one first", x.falls(-1), 1);
        x.mend(2, 1, 0);
        Due.is("12: does not STAND now", x.falls(2), 0);
        Due.is("12: which one first", x.falls(-1), 2);
        Due.is("12: no such bridge", x.falls(3), BAD);
        Due.is("12: no such bridge", x.falls(-2), BAD);
        told(x, "0");
        Due.is("12: never", x.falls(0), NOT);
        Due.is("12: the one that fell", x.falls(-1), 2);
        x.mend(2, 1, 60);
        Due.is("12: none", x.falls(-1), NOT);
        told(x, "1");
        Due.is("12: behind 60 days", x.falls(2), 60);
        x.mend(2, 1, 61);
        Due.is("12: behind more than 60", x.falls(2), NOT);
        Due.is("12: no bridge at all", new BeggarBridge().falls(-1), NOT);
    }

    private static void p13() {
        BeggarBridge x = line(1);
        x.beggar(9, 2);
        x.sits(0, 0);
        Due.is("13: by 1 a day", x.rich(0), 10);
        x.mend(0, 3, 9);
        Due.is("13: has so much, nothing", x.rich(0), 1);
        x.mend(0, 3, 10);
        Due.is("13: has more now", x.rich(0), 0);
        x.mend(0, 3, 0);
        x.mend(0, 7, 59);
        told(x, "0");
        Due.is("13: behind 60 days", x.rich(0), 60);
        x.mend(0, 7, 60);
        Due.is("13: behind more", x.rich(0), NOT);
        x.mend(0, 7, 9);
        x.mend(0, 1, 5);
        told(x, "1");
        Due.is("13: it falls ahead of that", x.rich(0), NOT);
        x.beggar(9, 0);
        Due.is("13: who sits nowhere", x.rich(1), NOT);
        Due.is("13: no such beggar", x.rich(2), BAD);
        Due.is("13: no such beggar", x.rich(-1), BAD);
    }

    private static void p14() {
        BeggarBridge x = line(2);
        x.beggar(1, 4);
        x.beggar(1, 4);
        x.sits(0, 0);
        x.sits(1, 0);
        Due.is("14: it does not fall", x.falls(0), NOT);
        Due.is("14: without them", x.without(0), 50);
        Due.is("14: they sit there still", x.of(1, 6), 0);
        x.mend(1, 1, 0);
        Due.is("14: one that fell", x.without(1), 0);
        told(x, "1");
        Due.is("14: behind more than 60", x.without(0), NOT);
        told(x, "(h+r=0)*4");
        Due.is("14: nobody from now on", x.without(0), 25);
        Due.is("14: no such bridge", x.without(2), BAD);
        Due.is("14: no such bridge", x.without(-1), BAD);
    }

    private static void p15() {
        BeggarBridge x = line(2);
        x.beggar(1, 4);
        x.beggar(1, 4);
        x.sits(0, 0);
        x.sits(1, 0);
        x.mend(0, 0, 8);
        x.mend(1, 1, 10);
        // bridge 0 keeps 99 by one who has nothing, bridge 1 (2 a day) falls without one
        Due.is("15: how many", x.moved(20, 0), 2);
        Due.is("15: SOUND of all", x.moved(20, 1), 109);
        Due.is("15: which, of like ones the least", x.moved(20, 2), 1);
        Due.is("15: now all is as it is", x.moved(0, 2), 900);
        Due.is("15: SOUND now", x.moved(0, 1), 109);
        x.sits(1, 1);
        Due.is("15: none is moved", x.moved(20, 2), 900);
        x.mend(1, 3, 99);
        x.mend(1, 5, 0);
        // beggar 1 has more: 2 by SPAN and 2 more a day
        Due.is("15: nowhere", x.moved(2, 2), 108);
        Due.is("15: SOUND then", x.moved(2, 1), 105);
        Due.is("15: most BRIDGES first", x.moved(3, 0), 2);
        x.mend(1, 1, 3);
        Due.is("15: a BRIDGE is more than SOUND", x.moved(1, 2), 108);
        Due.is("15: nobody is moved in deed", x.of(1, 6), 1);
        Due.is("15: n 21", x.moved(21, 0), BAD);
        Due.is("15: n -1", x.moved(-1, 0), BAD);
        Due.is("15: what 3", x.moved(0, 3), BAD);
        Due.is("15: what -1", x.moved(0, -1), BAD);
        Due.is("15: without bridges", new BeggarBridge().moved(20, 2), 900);
    }

    private static void p16() {
        BeggarBridge x = line(3);
        Due.is("16: nobody is there", x.lasting(-1), 0);
        Due.is("16: nobody", x.lasting(2), 9);
        x.mend(0, 2, 1);
        x.mend(1, 2, 5);
        x.mend(2, 2, 9);
        x.beggar(9, 9);
        x.beggar(9, 1);
        // beggar 0 may sit anywhere, beggar 1 on bridge 0 alone: the most is both
        Due.is("16: how many", x.lasting(-1), 2);
        Due.is("16: of like ones the first by BRIDGES", x.lasting(0), 1);
        Due.is("16: the next", x.lasting(1), 0);
        Due.is("16: nobody last", x.lasting(2), 9);
        x.beggar(2, 3);
        Due.is("16: ASKS, if that is less than ALMS", x.lasting(-1), 3);
        Due.is("16: first by BRIDGES", x.lasting(1), 0);
        Due.is("16: then", x.lasting(2), 2);
        x.mend(0, 3, 10);
        Due.is("16: who has more may not", x.lasting(-1), 2);
        Due.is("16: who sits where", x.lasting(1), 2);
        Due.is("16: nobody", x.lasting(2), 9);
        x.mend(0, 7, 10);
        x.mend(1, 1, 0);
        Due.is("16: whether it STANDS or not", x.lasting(1), 0);
        Due.is("16: no such bridge", x.lasting(3), BAD);
        Due.is("16: no such bridge", x.lasting(-2), BAD);
    }

    private static void p17() {
        BeggarBridge x = new BeggarBridge();
        x.bridge(1, 2);
        x.bridge(12, 3);
        x.bridge(2, 5);
        x.bridge(20, 5);
        x.bridge(23, 9);
        Due.is("17: the least SPAN", x.way(2, 0), 5);
        Due.is("17: of like ones the fewest", x.way(2, 1), 1);
        Due.is("17: both ways", x.way(20, 0), 5);
        Due.is("17: on", x.way(3, 0), 14);
        Due.is("17: how many", x.way(3, 1), 2);
        x.mend(2, 0, 6);
        x.mend(3, 0, 6);
        Due.is("17: by two", x.way(3, 1), 3);
        Due.is("17: PARTED", x.way(2, 2), 3);
        Due.is("17: the least bits", x.way(2, 3), 13);
        Due.is("17: one alone", x.way(3, 2), 1);
        Due.is("17: which", x.way(30, 3), 16);
        x.mend(4, 1, 0);
        Due.is("17: by those that STAND", x.way(3, 0), NOT);
        Due.is("17: by those that STAND", x.way(3, 1), NOT);
        Due.is("17: PARTED already", x.way(3, 2), 0);
        Due.is("17: none", x.way(3, 3), 0);
        x.mend(0, 1, 0);
        Due.is("17: one that fell parts nothing", x.way(2, 3), 12);
        int[] wrong = {0, 11, 77, 8, 80, -1, -12, 100, 101, LEAST, MOST};
        for (int ft : wrong) {
            for (int what = 0; what < 4; what++) {
                Due.is("17: way(" + ft + ", " + what + ")", x.way(ft, what), BAD);
            }
        }
        Due.is("17: what 4", x.way(1, 4), BAD);
        Due.is("17: what -1", x.way(1, -1), BAD);
        BeggarBridge seven = new BeggarBridge();
        for (int k = 0; k < 8; k++) {
            seven.bridge(k == 2 ? 45 : 1, 1);
        }
        Due.is("17: seven side by side", seven.way(1, 2), 7);
        Due.is("17: not the one elsewhere", seven.way(1, 3), 255 - 4);
        BeggarBridge all = line(7);
        Due.is("17: through all places", all.way(7, 0), 28);
        Due.is("17: by seven", all.way(70, 1), 7);
        Due.is("17: the least of seven", all.way(70, 3), 1);
    }

    private static void p18() {
        BeggarBridge x = line(4);
        Due.is("18: all", x.needed(), 15);
        x.bridge(30, 9);
        Due.is("18: a round", x.needed(), 8);
        x.bridge(34, 1);
        Due.is("18: two side by side", x.needed(), 0);
        x.mend(3, 1, 0);
        Due.is("18: one that fell is not", x.needed(), 32);
        x.mend(1, 1, 0);
        Due.is("18: no round any more", x.needed(), 1 + 4 + 16 + 32);
        Due.is("18: without bridges", new BeggarBridge().needed(), 0);
    }

    private static void p19() {
        BeggarBridge x = line(2);
        bytes(x, 0, 99, 97, 95);
        Due.is("19: all is so", x.judge(0, 0), NOT);
        bytes(x, 0, 98, 97, 94);
        Due.is("19: the first", x.judge(0, 0), 0);
        bytes(x, 0, 99, 97, 94, 0);
        Due.is("19: the third", x.judge(0, 0), 2);
        bytes(x, 0);
        Due.is("19: an empty book", x.judge(0, 0), NOT);
        x.row(0, 0, 60);
        for (int i = 0; i < 60; i++) {
            x.put(0, i, Math.max(0, 99 - 2 * i));
        }
        Due.is("19: 60 days, the last ones fallen", x.judge(0, 0), NOT);
        x.put(0, 59, 256 + 1);
        Due.is("19: the last", x.judge(0, 0), 59);
        x.put(0, 59, 256);
        Due.is("19: bytes keep their lowest bits", x.judge(0, 0), NOT);
        x.row(1, 2, 1);
        Due.is("19: ints", x.judge(1, 0), -12);
        x.body(3);
        x.keep(1, 0);
        Due.is("19: an ARCH", x.judge(1, 0), -12);
        Due.is("19: nothing", x.judge(2, 0), -11);
        Due.is("19: BAD ahead of nothing", x.judge(2, 2), BAD);
        Due.is("19: no such shelf", x.judge(6, 0), BAD);
        Due.is("19: no such shelf", x.judge(-1, 0), BAD);
        Due.is("19: no such bridge", x.judge(0, -1), BAD);
    }

    private static void p20() {
        BeggarBridge x = line(2);
        x.beggar(4, 4);
        x.beggar(4, 0);
        x.sits(0, 0);
        bytes(x, 0, 99, 95, 91, 91);
        // by 1 a day down from MEANS: more than 9 on two days, 9 on the third
        Due.is("20: HAD", x.fits(0, 0, 0, 0), 1);
        Due.is("20: the least", x.fits(0, 0, 0, 1), 11);
        bytes(x, 0, 99, 95, 91, 87);
        Due.is("20: HAD, many", x.fits(0, 0, 0, 0), 88);
        Due.is("20: the least of many", x.fits(0, 0, 0, 1), 12);
        bytes(x, 0, 99, 98);
        Due.is("20: HAD by none", x.fits(0, 0, 0, 0), 0);
        Due.is("20: the least of none", x.fits(0, 0, 0, 1), NOT);
        Due.is("20: GIVEN by none", x.fits(0, 0, 0, 2), 0);
        Due.is("20: the least of none", x.fits(0, 0, 0, 3), NOT);
        bytes(x, 0, 99);
        Due.is("20: HAD by all", x.fits(0, 0, 1, 0), 100);
        Due.is("20: GIVEN by all", x.fits(0, 0, 1, 2), 10);
        x.mend(0, 5, 0);
        x.mend(0, 7, 5);
        x.mend(0, 4, 9);
        bytes(x, 0, 99, 99, 95);
        Due.is("20: GIVEN, by so much that he has more", x.fits(0, 0, 0, 2), 4);
        Due.is("20: the least", x.fits(0, 0, 0, 3), 6);
        bytes(x, 0, 99, 97);
        Due.is("20: ALMS of another bridge", x.fits(0, 1, 0, 2), 10);
        Due.is("20: MEANS of one who does not sit there", x.fits(0, 1, 0, 0), 100);
        Due.is("20: they are as they were", x.of(0, 3) * 10 + x.of(0, 2), 3);
        x.row(1, 3, 2);
        for (int what = 0; what < 4; what++) {
            Due.is("20: longs", x.fits(1, 0, 0, what), -12);
            Due.is("20: nothing", x.fits(2, 0, 0, what), -11);
            Due.is("20: BAD ahead of nothing", x.fits(2, 2, 0, what), BAD);
            Due.is("20: no such number", x.fits(2, 0, 2, what), BAD);
            Due.is("20: no such number", x.fits(0, 0, -1, what), BAD);
            Due.is("20: no such shelf", x.fits(6, 0, 0, what), BAD);
        }
        Due.is("20: what 4", x.fits(0, 0, 0, 4), BAD);
        Due.is("20: what -1", x.fits(0, 0, 0, -1), BAD);
    }

    private static void p21() {
        BeggarBridge x = new BeggarBridge();
        for (int b = 0; b < 4; b++) {
            x.beggar(1, 1);
        }
        Due.is("21: none has more", x.fined(0, 9999), 0);
        x.mend(0, 3, 10);
        Due.is("21: all by one", x.fined(0, 10), 10);
        x.mend(1, 3, 12);
        x.mend(2, 3, 9);
        Due.is("21: one part of four", x.fined(0, 10), 2);
        Due.is("21: three, cut", x.fined(1, 10), 7);
        Due.is("21: who has nothing", x.fined(2, 10), 0);
        x.mend(3, 3, 99);
        Due.is("21: most", x.fined(3, 9999), 9999 * 90 / 94);
        Due.is("21: v 0", x.fined(3, 0), 0);
        Due.is("21: v -1", x.fined(3, -1), BAD);
        Due.is("21: v 10000", x.fined(3, 10000), BAD);
        Due.is("21: no such beggar", x.fined(4, 0), BAD);
        Due.is("21: no such beggar", x.fined(-1, 0), BAD);
        Due.is("21: nothing is paid in deed", x.of(3, 3), 99);
    }

    private static void p22() {
        BeggarBridge x = line(2);
        for (int b = 0; b < 9; b++) {
            x.beggar(1, 1);
            x.sits(b, b < 4 ? 0 : b < 8 ? 1 : -1);
        }
        x.mend(0, 3, 10);
        Due.is("22: at one end", x.claim(0), 31);
        Due.is("22: between", x.claim(1), 71);
        Due.is("22: at the other end", x.claim(2), 40);
        Due.is("22: where no bridge is", x.claim(7), 0);
        x.mend(1, 1, 0);
        Due.is("22: on one that fell, too", x.claim(2), 40);
        Due.is("22: no such place", x.claim(8), BAD);
        Due.is("22: no such place", x.claim(-1), BAD);
    }

    private static void p23() {
        BeggarBridge x = line(2);
        x.mend(0, 0, 9);
        x.beggar(4, 4);
        x.beggar(4, 4);
        x.sits(1, 1);
        Due.is("23: the engineer alone", x.byTurns(0, 105, 0), 99);
        Due.is("23: of like ones the least", x.byTurns(0, 105, 1), 0);
        Due.is("23: no days", x.byTurns(0, 100, 0), 99);
        Due.is("23: nothing first", x.byTurns(0, 100, 1), 9);
        // the banker makes him have more for 11 days: then he were 2 a day worse than nobody
        Due.is("23: the banker answers", x.byTurns(0, 205, 0), 79);
        Due.is("23: so the engineer does nothing", x.byTurns(0, 205, 1), 9);
        Due.is("23: the engineer once more", x.byTurns(0, 305, 0), 99);
        x.mend(0, 7, 20);
        Due.is("23: the banker gives 20, still nothing", x.byTurns(0, 205, 0), 99);
        x.mend(0, 7, 19);
        Due.is("23: the banker gives 20, more for a day", x.byTurns(0, 205, 0), 93);
        x.mend(0, 7, 9);
        x.mend(0, 3, 99);
        Due.is("23: one who has more does not help", x.byTurns(0, 105, 1), 1);
        Due.is("23: from wherever; nobody moves in deed", x.of(1, 6), 1);
        Due.is("23: nor is anything given", x.of(1, 3), 0);
        int[] wrong = {0, 99, 121, 199, 221, 321, 400, -100, -101, -305, LEAST, MOST};
        for (int nt : wrong) {
            Due.is("23: nt " + nt, x.byTurns(0, nt, 0), BAD);
        }
        Due.is("23: what 2", x.byTurns(0, 100, 2), BAD);
        Due.is("23: what -1", x.byTurns(0, 100, -1), BAD);
        Due.is("23: no such bridge", x.byTurns(2, 100, 0), BAD);
        Due.is("23: no such bridge", x.byTurns(-1, 100, 0), BAD);
        x.mend(0, 3, 0);
        x.sits(0, 0);
        x.mend(0, 1, 2);
        told(x, "r+1");
        Due.is("23: the banker wants the least, 0", x.byTurns(0, 201, 0), 0);
        x.mend(0, 1, 0);
        Due.is("23: one that fell", x.byTurns(0, 320, 0), 0);
        Due.is("23: nothing helps", x.byTurns(0, 320, 1), 9);
    }

    private static void p24() {
        BeggarBridge x = line(2);
        Due.is("24: without beggars", x.drawn(7, 304912, -1), 60);
        Due.is("24: as the days do", x.drawn(7, 305012, -1), 0);
        x.mend(1, 1, 50);
        Due.is("24: one of them", x.drawn(7, 303012, 0), 30);
        Due.is("24: the other", x.drawn(7, 303012, 1), 0);
        x.beggar(9, 9);
        x.sits(0, 0);
        told(x, "r*20");
        // SEED 0: z is 12345 (12345 >>> 16 is 0, no gift), so nobody gets anything on the first day
        Due.is("24: a first day without a gift", x.drawn(0, 10112, 0), 1);
        Due.is("24: no luck", x.drawn(99, 306000, 0), 30);
        x.mend(0, 1, 20);
        x.mend(0, 7, 0);
        int z = 41;
        int stands = 0;
        for (int c = 0; c < 30; c++) {
            z = z * 1103515245 + 12345;
            stands += (z >>> 24) % 12 < 6 && (z >>> 16) % 30 > 0 ? 0 : 1;
        }
        Due.is("24: z goes on from county to county", x.drawn(41, 300106, 0), stands);
        Due.is("24: MEANS as they were", x.of(0, 3), 0);
        int[] wrong = {0, 100, 9999, 10000, 10013, 10113, 16100, 310100, 10199, -10101, LEAST, MOST};
        for (int nml : wrong) {
            Due.is("24: nml " + nml, x.drawn(1, nml, -1), BAD);
        }
        Due.is("24: no such bridge", x.drawn(1, 10100, 2), BAD);
        Due.is("24: no such bridge", x.drawn(1, 10100, -2), BAD);
    }

    private static void p25() {
        BeggarBridge x = line(2);
        x.mend(1, 1, 4);
        x.beggar(9, 1);
        x.sits(0, 1);
        x.mend(0, 3, 50);
        Due.is("25: one falls", x.day(), 1);
        Due.is("25: SOUND", x.of(0, 1), 97);
        Due.is("25: 0 at least", x.of(1, 1), 0);
        Due.is("25: MEANS, by the ALMS of one that stood", x.of(0, 3), 52);
        Due.is("25: DAY", x.of(0, 8), 1);
        Due.is("25: the next", x.day(), 1);
        Due.is("25: no ALMS on one that fell", x.of(0, 3), 51);
        x.mend(0, 8, 6);
        x.day();
        Due.is("25: behind 6: 0", x.of(0, 8), 0);
        Due.is("25: no change that may be undone", x.count(3), 3);
        Due.is("25: without bridges", new BeggarBridge().day(), 0);
    }

    private static void p26() {
        BeggarBridge x = line(2);
        x.beggar(1, 1);
        Due.is("26: from nowhere", x.sits(0, 1), -1);
        Due.is("26: on", x.sits(0, 0), 1);
        Due.is("26: where he sits", x.of(0, 6), 0);
        Due.is("26: nowhere", x.sits(0, -1), 0);
        Due.is("26: no such bridge", x.sits(0, 2), VOID);
        Due.is("26: no such bridge", x.sits(0, -2), VOID);
        Due.is("26: no such beggar", x.sits(1, 0), VOID);
        Due.is("26: no such beggar", x.sits(-1, 0), VOID);
        Due.is("26: no change that may be undone", x.count(3), 0);
        Due.is("26: seats", x.led(1), 3);
    }

    private static void p27() {
        BeggarBridge x = new BeggarBridge();
        x.beggar(1, 1);
        Due.is("27: given(0, 1)", x.given(0, 1), 1);
        Due.is("27: given(0, 97)", x.given(0, 97), 98);
        Due.is("27: 99 at most", x.given(0, 99), 99);
        Due.is("27: MEANS", x.of(0, 3), 99);
        Due.is("27: v 0", x.given(0, 0), BAD);
        Due.is("27: v 100", x.given(0, 100), BAD);
        Due.is("27: v -1", x.given(0, -1), BAD);
        Due.is("27: no such beggar", x.given(1, 1), BAD);
        Due.is("27: no such beggar", x.given(-1, 1), BAD);
        Due.is("27: given, as told", x.led(2), 1 + 97 + 99);
        Due.is("27: no change that may be undone", x.count(3), 0);
    }

    private static void p28() {
        BeggarBridge x = line(1);
        x.mend(0, 1, 0);
        Due.is("28: one that fell", x.repair(0, 1), 1);
        Due.is("28: it STANDS again", x.county(0, 0), 1);
        Due.is("28: 99 at most", x.repair(0, 99), 99);
        Due.is("28: v 0", x.repair(0, 0), BAD);
        Due.is("28: v 100", x.repair(0, 100), BAD);
        Due.is("28: no such bridge", x.repair(1, 1), BAD);
        Due.is("28: no such bridge", x.repair(-1, 1), BAD);
        Due.is("28: mended, as told", x.led(3), 100);
        Due.is("28: one change alone", x.count(3), 1);
    }

    private static void p29() {
        BeggarBridge x = line(2);
        x.beggar(1, 1);
        x.mend(0, 1, 2);
        x.mend(1, 1, 2);
        x.day();
        Due.is("29: days", x.led(0), 1);
        Due.is("29: two fell", x.led(4), 2);
        x.repair(0, 2);
        x.day();
        Due.is("29: one fell again", x.led(4), 3);
        x.mend(1, 1, 5);
        x.mend(1, 1, 0);
        Due.is("29: what mend() does is no deed", x.led(4), 3);
        x.mend(0, 6, 0);
        Due.is("29: nor a seat", x.led(1), 0);
        x.sits(0, 0);
        Due.is("29: a seat, as it was", x.led(1), 1);
        x.county(60, 0);
        Due.is("29: days in thought are none", x.led(0), 2);
        Due.is("29: led(5)", x.led(5), BAD);
        Due.is("29: led(-1)", x.led(-1), BAD);
    }

    private static void p30and31() {
        BeggarBridge x = line(1);
        x.beggar(2, 3);
        x.mend(0, 3, 20);
        Due.is("31: there is none", x.back(), STATE);
        x.day();
        x.day();
        Due.is("30: days", x.image(), 2);
        x.day();
        x.sits(0, 0);
        x.given(0, 5);
        x.repair(0, 1);
        x.bridge(12, 2);
        x.beggar(7, 0);
        x.sits(1, 1);
        x.given(1, 50);
        x.mend(0, 0, 9);
        x.mend(0, 2, 7);
        x.mend(0, 4, 8);
        x.mend(0, 7, 33);
        x.mend(1, 1, 44);
        Due.is("31: days", x.back(), 2);
        Due.is("31: SOUND", x.of(0, 1), 95);
        Due.is("31: MEANS", x.of(0, 3), 14);
        Due.is("31: SITS", x.of(0, 6), -1);
        Due.is("31: DAY", x.of(0, 8), 2);
        int[] led = {2, 0, 0, 0, 0};
        for (int what = 0; what < 5; what++) {
            Due.is("31: led(" + what + ")", x.led(what), led[what]);
        }
        Due.is("31: SPAN is not in it", x.of(0, 0), 9);
        Due.is("31: ALMS are not in it", x.of(0, 2), 7);
        Due.is("31: ASKS are not in it", x.of(0, 4), 8);
        Due.is("31: POOR is not in it", x.of(0, 7), 33);
        Due.is("31: a bridge that came since", x.of(1, 1), 44);
        Due.is("31: a beggar who came since", x.of(1, 3) * 10 + x.of(1, 6), 501);
        Due.is("31: changes stay as they are", x.count(3), 6);
        x.day();
        Due.is("31: once more", x.back(), 2);
        x.day();
        Due.is("30: the later one is kept", x.image(), 3);
        x.day();
        Due.is("31: by the later one", x.back(), 3);
        Due.is("31: DAY", x.of(0, 8), 3);
    }

    private static void p32and33() {
        BeggarBridge x = line(1);
        x.beggar(1, 1);
        int[] what = {0, 1, 2, 3, 4, 5, 6, 7, 8};
        int[] was = {4, 99, 3, 0, 1, 1, -1, 9, 0};
        int[] becomes = {5, 50, 4, 6, 7, 8, 0, 10, 3};
        for (int i = 0; i < 9; i++) {
            x.mend(0, what[i], becomes[i]);
        }
        Due.is("32: how many may be", x.count(3), 9);
        x.mend(0, 0, 5);
        Due.is("32: telling the same number is none", x.count(3), 9);
        for (int i = 8; i >= 0; i--) {
            Due.is("32: undo", x.undo(), i);
            Due.is("32: what it was", x.of(0, what[i]), was[i]);
        }
        Due.is("32: none", x.undo(), STATE);
        for (int i = 0; i < 9; i++) {
            Due.is("33: redo", x.redo(), 8 - i);
            Due.is("33: what it became", x.of(0, what[i]), becomes[i]);
        }
        Due.is("33: none", x.redo(), STATE);
        x.undo();
        x.undo();
        x.mend(0, 0, 5);
        x.mend(0, 0, 10);
        x.day();
        x.bridge(12, 1);
        Due.is("33: nothing of that is a change", x.redo(), 1);
        x.mend(0, 0, 6);
        Due.is("33: another came behind", x.redo(), STATE);
        Due.is("32: that one may be undone", x.undo(), 8);
        BeggarBridge y = line(1);
        y.mend(0, 1, 60);
        y.day();
        y.sits(0, 0);
        Due.is("32: behind deeds", y.undo(), 0);
        Due.is("32: what it was", y.of(0, 1), 99);
        y.day();
        Due.is("33: behind deeds", y.redo(), 0);
        Due.is("33: what it became", y.of(0, 1), 60);
        BeggarBridge z = line(1);
        for (int i = 1; i <= 45; i++) {
            z.mend(0, 1, i);
        }
        BeggarBridge mixed = line(7);
        mixed.bridge(70, 4);
        for (int i = 0; i < 43; i++) {
            mixed.mend(i % 8, i % 2, 1 + i / 8);
        }
        for (int i = 42; i >= 3; i--) {
            mixed.undo();
            Due.is("32: of bridges by turns", mixed.of(i % 8, i % 2), i < 8 ? i % 2 == 0 ? 4 : 99 : i / 8);
        }
        Due.is("32: 40 at most are kept", z.count(3), 40);
        for (int i = 39; i >= 0; i--) {
            Due.is("32: the latest first", z.undo(), i);
            Due.is("32: what it was", z.of(0, 1), i + 5);
        }
        Due.is("32: no more", z.undo(), STATE);
        Due.is("32: as it was ahead of the 40", z.of(0, 1), 5);
        Due.is("33: all of them again", z.redo(), 39);
        Due.is("33: the first of them", z.of(0, 1), 6);
        for (int i = 38; i >= 0; i--) {
            Due.is("33: the next", z.redo(), i);
            Due.is("33: what it became", z.of(0, 1), 45 - i);
        }
    }

    private static void p34() {
        BeggarBridge x = new BeggarBridge();
        Due.is("34: kind -1", x.body(-1), BAD);
        Due.is("34: kind 8", x.body(8), BAD);
        for (int n = 0; n < 50; n++) {
            Due.is("34: body", x.body(n % 8), n);
        }
        Due.is("34: FULL", x.body(0), FULL);
        Due.is("34: BAD ahead of FULL", x.body(8), BAD);
        Due.is("34: how many", x.count(4), 50);
    }

    private static void ran(BeggarBridge x, String name, int... bodies) {
        Due.is(name + ": how many ran", x.count(5), bodies.length);
        for (int i = 0; i < bodies.length; i++) {
            Due.is(name + ": trace(" + i + ")", x.trace(i), bodies[i]);
        }
        Due.is(name + ": trace behind the end", x.trace(bodies.length), BAD);
    }

    private static void p35and36() {
        BeggarBridge x = new BeggarBridge();
        for (int kind = 0; kind < 8; kind++) {
            x.body(kind);
        }
        // worked out by hand, BODY n of KIND n with x 10: stands, asks, cracks, tells
        int[][] due = {
            {10, 20, 10, 20 - 1},
            {10 + 1 + 3, 28, 10 ^ 1, 28},
            {10 + 2, -24, 10 ^ 2, -24 - (1 ^ 2)},
            {10 + 3, -2 * (11 + 3), 3 * (10 ^ 3), -28 - 3 * (1 ^ 3)},
            {10 + 4 + 3, 34, (10 ^ 4) - 9, 34 - ((1 ^ 4) - 9)},
            {10 + 5, -2 * (11 + 5), 3 * (10 ^ 5), (-32 - 3 * (1 ^ 5)) ^ 5},
            {2 * (10 + 6), 64, 10 ^ 6, 64 - (1 ^ 6)},
            {10 + 7 + 3, 40 + (2 ^ 7) - 12, (10 ^ 7) - 12, 33 - ((1 ^ 7) - 12) - 1}};
        for (int n = 0; n < 8; n++) {
            for (int act = 0; act < 4; act++) {
                Due.is("35: act(" + n + ", " + act + ", 10)", x.act(n, act, 10), due[n][act]);
            }
        }
        x.act(0, 3, 1);
        ran(x, "36: ARCH tells", 2, 10, 1, 11);
        x.act(5, 3, 1);
        ran(x, "36: BRIDE tells", 60, 2, 41, 30, 10, 1, 40, 11);
        x.act(6, 1, 1);
        ran(x, "36: CART asks", 10, 70, 1);
        x.act(7, 3, 1);
        ran(x, "36: IRON tells", 81, 2, 80, 10, 20, 1, 50, 11, 20, 1, 50, 11, 20, 1);
        Due.is("36: trace(-1)", x.trace(-1), BAD);
        Due.is("36: trace(24)", x.trace(24), BAD);
        Due.is("35: no such ARCH", x.act(8, 0, 1), 0);
        ran(x, "36: no TRACE then");
        x.act(0, 0, 1);
        Due.is("35: no such ARCH", x.act(-1, 0, 1), 0);
        ran(x, "36: no TRACE then");
        x.act(0, 0, 1);
        Due.is("35: no such ACT", x.act(0, 4, 1), 0);
        ran(x, "36: no TRACE then");
        x.act(0, 0, 1);
        Due.is("35: no such ACT", x.act(0, -1, 1), 0);
        ran(x, "36: no TRACE then");
        Due.is("35: ints that wrap", x.act(1, 0, MOST), MOST + 4);
        Due.is("35: ints that wrap", x.act(2, 1, LEAST), -4);
    }

    private static void p37() {
        BeggarBridge x = new BeggarBridge();
        Due.is("37: nothing", x.keep(0, -1), 1);
        Due.is("37: no such ARCH", x.keep(0, 0), BAD);
        x.body(4);
        Due.is("37: an ARCH", x.keep(5, 0), 1);
        Due.is("37: it is there", x.taken(5, 4), 4);
        Due.is("37: no such shelf", x.keep(6, 0), BAD);
        Due.is("37: no such shelf", x.keep(-1, -1), BAD);
        Due.is("37: no such ARCH", x.keep(5, -2), BAD);
        Due.is("37: no such ARCH", x.keep(5, 1), BAD);
        Due.is("37: what is BAD changes nothing", x.taken(5, 4), 4);
        Due.is("37: nothing again", x.keep(5, -1), 1);
        Due.is("37: it is gone", x.taken(5, 4), -11);
        x.row(1, 0, 1);
        Due.is("37: in place of a ROW", x.keep(1, 0), 1);
        Due.is("37: no ROW any more", x.put(1, 0, 0), -12);
    }

    private static void p38() {
        BeggarBridge x = new BeggarBridge();
        for (int sort = 0; sort < 5; sort++) {
            Due.is("38: row", x.row(sort, sort, 60), 1);
            Due.is("38: 0 at first", x.element(sort, 59), 0);
            Due.is("38: its end", x.element(sort, 60), Long.MIN_VALUE);
        }
        x.put(0, 0, 5);
        Due.is("38: a new one", x.row(0, 0, 1), 1);
        Due.is("38: 0 at first", x.element(0, 0), 0);
        x.put(0, 0, 5);
        Due.is("38: n 61", x.row(0, 0, 61), BAD);
        Due.is("38: n far above", x.row(0, 0, MOST), BAD);
        Due.is("38: n -1", x.row(0, 0, -1), -14);
        Due.is("38: n far below", x.row(0, 0, LEAST), -14);
        Due.is("38: sort 5", x.row(0, 5, 1), BAD);
        Due.is("38: sort -1", x.row(0, -1, 1), BAD);
        Due.is("38: BAD ahead of -14", x.row(0, 5, -1), BAD);
        Due.is("38: no such shelf", x.row(6, 0, 1), BAD);
        Due.is("38: BAD ahead of -14", x.row(-1, 0, -1), BAD);
        Due.is("38: what is refused changes nothing", x.element(0, 0), 5);
        Due.is("38: an empty one", x.row(0, 0, 0), 1);
        Due.is("38: it has no place", x.put(0, 0, 1), -13);
    }

    private static void p39and40() {
        BeggarBridge x = new BeggarBridge();
        long[] put = {0x123456789abcdef0L, 255, 32768, 0x80000000L, -1, 256};
        long[][] due = {
            {(byte) 0xf0, -1, 0, 0, -1, 0},
            {(short) 0xdef0, 255, -32768, 0, -1, 256},
            {0x9abcdef0, 255, 32768, LEAST, -1, 256},
            put,
            {1, 1, 1, 1, 1, 1}};
        for (int sort = 0; sort < 5; sort++) {
            x.row(0, sort, 2);
            for (int i = 0; i < put.length; i++) {
                Due.is("39: put", x.put(0, 1, put[i]), 1);
                Due.is("40: element of sort " + sort, x.element(0, 1), due[sort][i]);
            }
            Due.is("39: 0", x.put(0, 1, 0), 1);
            Due.is("40: 0", x.element(0, 1), 0);
            Due.is("40: the one beside it", x.element(0, 0), 0);
        }
        x.body(0);
        x.keep(1, 0);
        int[][] wrong = {{6, 0, BAD}, {-1, 0, BAD}, {2, 0, -11}, {2, -1, -11}, {1, 0, -12}, {1, -1, -12}, {0, 2, -13},
            {0, -1, -13}, {0, MOST, -13}, {0, LEAST, -13}};
        for (int[] w : wrong) {
            Due.is("39: put(" + w[0] + ", " + w[1] + ", 1)", x.put(w[0], w[1], 1), w[2]);
            Due.is("40: element(" + w[0] + ", " + w[1] + ")", x.element(w[0], w[1]), Long.MIN_VALUE);
        }
    }

    private static void p41() {
        BeggarBridge x = new BeggarBridge();
        bytes(x, 0, 1, 2, 3, 4, 5);
        Due.is("41: up, in the same", x.shift(0, 0, 0, 1, 4), 4);
        int[] up = {1, 1, 2, 3, 4};
        for (int i = 0; i < 5; i++) {
            Due.is("41: as they all were before", x.element(0, i), up[i]);
        }
        Due.is("41: down, in the same", x.shift(0, 1, 0, 0, 4), 4);
        int[] down = {1, 2, 3, 4, 4};
        for (int i = 0; i < 5; i++) {
            Due.is("41: as they all were before", x.element(0, i), down[i]);
        }
        x.row(1, 0, 3);
        Due.is("41: to another", x.shift(0, 3, 1, 1, 2), 2);
        Due.is("41: it came", x.element(1, 1) * 10 + x.element(1, 2), 44);
        Due.is("41: the rest stays", x.element(1, 0), 0);
        Due.is("41: none", x.shift(0, 5, 1, 3, 0), 0);
        x.row(2, 1, 3);
        x.body(0);
        x.keep(3, 0);
        x.keep(4, 0);
        int[][] wrong = {{0, 0, 6, 0, 1, BAD}, {-1, 0, 0, 0, 1, BAD}, {5, 0, 6, 0, 1, BAD}, {0, 0, 5, 0, 1, -11},
            {5, 0, 0, 0, 1, -11}, {5, 0, 3, 0, 1, -11}, {3, 0, 5, 0, 1, -11}, {0, 0, 2, 0, 1, -12}, {3, 0, 4, 0, 1, -12},
            {3, 0, 3, 0, 1, -12}, {0, 0, 3, 0, 1, -12}, {0, 0, 2, 9, 1, -12}, {0, 0, 1, 0, 4, -13}, {0, 2, 1, 0, 4, -13},
            {0, 0, 1, 2, 2, -13}, {0, -1, 1, 0, 1, -13}, {0, 0, 1, -1, 1, -13}, {0, 0, 1, 0, MOST, -13},
            {0, MOST, 1, 0, MOST, -13}, {0, 1, 1, MOST, MOST, -13}, {0, 0, 1, 0, -1, -13}, {0, LEAST, 1, 0, 1, -13}};
        for (int[] w : wrong) {
            Due.is("41: shift(" + w[0] + ", " + w[1] + ", " + w[2] + ", " + w[3] + ", " + w[4] + ")",
                    x.shift(w[0], w[1], w[2], w[3], w[4]), w[5]);
        }
        Due.is("41: what is refused changes nothing", x.element(1, 0), 0);
        x.row(4, 3, 1);
        x.row(5, 3, 1);
        x.put(4, 0, Long.MAX_VALUE);
        Due.is("41: longs", x.shift(4, 0, 5, 0, 1), 1);
        Due.is("41: a long", x.element(5, 0), Long.MAX_VALUE);
    }

    private static void p42() {
        BeggarBridge x = new BeggarBridge();
        int[] above = {-1, 0, 0, 2, 1, 3, 0, 4};
        for (int kind = 0; kind < 8; kind++) {
            x.body(kind);
            x.keep(0, kind);
            for (int k = 0; k < 8; k++) {
                boolean under = false;
                for (int at = kind; at >= 0; at = above[at]) {
                    under |= at == k;
                }
                Due.is("42: " + kind + " taken for " + k, x.taken(0, k), under ? kind : -12);
            }
        }
        x.row(1, 0, 1);
        Due.is("42: a ROW", x.taken(1, 0), -12);
        Due.is("42: nothing", x.taken(2, 0), -11);
        Due.is("42: no such KIND", x.taken(2, 8), BAD);
        Due.is("42: no such KIND", x.taken(0, -1), BAD);
        Due.is("42: no such shelf", x.taken(6, 0), BAD);
        Due.is("42: no such shelf", x.taken(-1, 0), BAD);
    }

    private static void p43() {
        BeggarBridge x = line(2);
        x.beggar(1, 1);
        x.feed('s');
        x.feed('s');
        x.feed('s');
        x.mend(0, 0, 1);
        x.mend(0, 0, 2);
        x.mend(0, 0, 3);
        x.mend(0, 0, 4);
        for (int n = 0; n < 5; n++) {
            x.body(7);
        }
        x.act(0, 3, 0);
        int[] due = {2, 1, 3, 3 + 1, 5, 14};
        for (int what = 0; what < 6; what++) {
            Due.is("43: count(" + what + ")", x.count(what), due[what]);
        }
        x.undo();
        Due.is("43: those that may still be UNDONE", x.count(3), 3);
        Due.is("43: count(6)", x.count(6), BAD);
        Due.is("43: count(-1)", x.count(-1), BAD);
    }
}
