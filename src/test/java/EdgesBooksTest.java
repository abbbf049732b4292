/** Promises 19 to 24: each sentence that names a boundary case. */
public final class EdgesBooksTest {
    private static final String LINE1 = Script.line(1), LINE2 = Script.line(2);
    private static final String LINE8 = Script.line(7) + "bridge(70, 4);";

    public static void main(String[] args) {
        refusals("judge(%s, %s)", 19);
        for (int what = 0; what < 4; what++) {
            refusals("fits(%s, %s, 0, " + what + ")", 20);
        }
        judge();
        fitsIsBad();
        had();
        given();
        fined();
        claim();
        byTurnsIsBad();
        byTurns();
        drawnIsBad();
        drawn();
        Due.end();
    }

    /** BAD, -11, -12 of a call with a BOOK. */
    private static void refusals(String call, int promise) {
        String[] wrong = {"-1", "6", "LEAST", "MOST"};
        for (String shelf : wrong) {
            Script.sentence(promise, "SHELVES 0 .. 5", LINE1, "beggar(1, 1)", String.format(call, shelf, "0") + " = BAD");
        }
        for (String bridge : new String[] {"-1", "2", "8", "LEAST", "MOST"}) {
            Script.sentence(promise, "no such BRIDGE: BAD, named ahead of -11 and -12",
                    LINE2, "beggar(1, 1)", Script.bytes(0, 99), "row(1, 1, 1); body(0); keep(2, 0)",
                    String.format(call, "0", bridge) + " = BAD", String.format(call, "1", bridge) + " = BAD",
                    String.format(call, "2", bridge) + " = BAD", String.format(call, "3", bridge) + " = BAD");
        }
        Script.sentence(promise, "-11: a SHELF that holds nothing",
                LINE1, "beggar(1, 1)", Script.each(6, String.format(call, "#", "0") + " = -11"), "row(0, 0, 3); keep(0, -1)",
                String.format(call, "0", "0") + " = -11");
        Script.sentence(promise, "-12: of another kind than a ROW of bytes",
                LINE1, "beggar(1, 1); row(0, 1, 1); row(1, 2, 1); row(2, 3, 1); row(3, 4, 1); row(4, 1, 0); body(0); keep(5, 0)",
                Script.each(6, String.format(call, "#", "0") + " = -12"));
    }

    /** What all 60 days of a BRIDGE of SPAN 4 are, nobody on it. */
    private static String sixty() {
        StringBuilder b = new StringBuilder("row(0, 0, 60);");
        for (int i = 0; i < 60; i++) {
            b.append("put(0, ").append(i).append(", ").append(Math.max(0, 99 - 2 * i)).append(");");
        }
        return b.toString();
    }

    private static void judge() {
        Script.sentence(19, "an empty BOOK", LINE1, "row(0, 0, 0); judge(0, 0) = NOT");
        Script.sentence(19, "60 days, 0 to 59", LINE1, sixty(), "judge(0, 0) = NOT; put(0, 59, 1); judge(0, 0) = 59; put(0, 50, 1)",
                "judge(0, 0) = 50; put(0, 49, 0); judge(0, 0) = 49; put(0, 0, 98); judge(0, 0) = 0");
        Script.sentence(19, "behind 0 days: as it is now",
                LINE2, Script.bytes(0, 99), "judge(0, 0) = NOT; mend(0, 1, 98); judge(0, 0) = 0; judge(0, 1) = NOT; put(0, 0, 98)",
                "judge(0, 0) = NOT; judge(0, 1) = 0; mend(0, 1, 0); put(0, 0, 0); judge(0, 0) = NOT");
        Script.sentence(19, "the first that is not so", LINE1, Script.bytes(0, 99, 96, 94, 93), "judge(0, 0) = 1; put(0, 1, 97)",
                "judge(0, 0) = 2; put(0, 2, 95); judge(0, 0) = NOT");
        Script.sentence(19, "bytes that are no SOUND", LINE1, Script.bytes(0, 99, -1), "judge(0, 0) = 1; put(0, 0, 127); judge(0, 0) = 0",
                "put(0, 0, -128); judge(0, 0) = 0; put(0, 0, 355); judge(0, 0) = 1");
        Script.sentence(19, "the last BRIDGE, the last SHELF", LINE8, Script.bytes(5, 99, 97), "judge(5, 7) = NOT; judge(5, 8) = BAD");
        Script.sentence(19, "it falls: 0 from then on",
                LINE1, "mend(0, 1, 1)", Script.bytes(0, 1, 0, 0, 0), "judge(0, 0) = NOT; put(0, 3, 1); judge(0, 0) = 3");
    }

    private static void fitsIsBad() {
        Script.sentence(20, "what 0 to 3",
                LINE1, "beggar(1, 1)", Script.bytes(0, 99), "fits(0, 0, 0, -1) = BAD; fits(0, 0, 0, 4) = BAD; fits(0, 0, 0, LEAST) = BAD",
                "fits(0, 0, 0, MOST) = BAD; fits(1, 0, 0, 4) = BAD; fits(0, 0, 0, 0) = 100; fits(0, 0, 0, 3) = 0");
        Script.sentence(20, "HAD: no such BEGGAR",
                LINE2, "beggar(1, 1)", Script.bytes(0, 99), "fits(0, 0, -1, 0) = BAD; fits(0, 0, 1, 0) = BAD; fits(0, 0, -1, 1) = BAD",
                "fits(0, 0, 1, 1) = BAD; fits(0, 0, LEAST, 0) = BAD; fits(0, 0, MOST, 1) = BAD; fits(1, 0, 1, 0) = BAD",
                "fits(0, 1, 0, 0) = 100");
        Script.sentence(20, "GIVEN: no such BRIDGE",
                LINE1, "beggar(1, 1); beggar(1, 1)", Script.bytes(0, 99), "fits(0, 0, -1, 2) = BAD; fits(0, 0, 1, 2) = BAD",
                "fits(0, 0, -1, 3) = BAD; fits(0, 0, 1, 3) = BAD; fits(0, 0, LEAST, 2) = BAD; fits(0, 0, MOST, 3) = BAD",
                "fits(1, 0, 1, 2) = BAD; fits(0, 0, 0, 2) = 10; fits(0, 0, 1, 0) = 100");
        Script.sentence(20, "the last of each",
                LINE8, Script.times(9, "beggar(1, 1)"), Script.bytes(5, 99, 97), "fits(5, 7, 8, 0) = 100; fits(5, 7, 8, 1) = 0",
                "fits(5, 7, 7, 2) = 10; fits(5, 7, 7, 3) = 0; fits(5, 7, 9, 0) = BAD; fits(5, 7, 8, 2) = BAD; fits(5, 8, 8, 0) = BAD");
    }

    private static void had() {
        Script.sentence(20, "HAD, an empty BOOK: by all 100",
                LINE1, "beggar(1, 1); sits(0, 0); row(0, 0, 0); fits(0, 0, 0, 0) = 100; fits(0, 0, 0, 1) = 0");
        Script.sentence(20, "HAD by none: 0, NOT",
                LINE1, "beggar(1, 1); sits(0, 0)", Script.bytes(0, 98), "fits(0, 0, 0, 0) = 0; fits(0, 0, 0, 1) = NOT; sits(0, -1)",
                "fits(0, 0, 0, 0) = 0; fits(0, 0, 0, 1) = NOT");
        String r = LINE1 + "beggar(0, 0); sits(0, 0); mend(0, 3, 50);" + Script.law("r");
        Script.sentence(20, "HAD by 99 alone",
                r, "mend(0, 7, 98)", Script.bytes(0, 99, 98), "fits(0, 0, 0, 0) = 1; fits(0, 0, 0, 1) = 99; put(0, 1, 99)",
                "fits(0, 0, 0, 0) = 99; fits(0, 0, 0, 1) = 0; mend(0, 7, 99); fits(0, 0, 0, 0) = 100; put(0, 1, 98)",
                "fits(0, 0, 0, 0) = 0; fits(0, 0, 0, 1) = NOT; of(0, 3) = 50");
        Script.sentence(20, "HAD by 0 alone",
                r, "mend(0, 7, 0)", Script.bytes(0, 99, 99), "fits(0, 0, 0, 0) = 1; fits(0, 0, 0, 1) = 0; put(0, 1, 98)",
                "fits(0, 0, 0, 0) = 99; fits(0, 0, 0, 1) = 1");
        Script.sentence(20, "HAD, just more than POOR", r, Script.bytes(0, 99, 98), "fits(0, 0, 0, 0) = 90; fits(0, 0, 0, 1) = 10");
        Script.sentence(20, "HAD, by one who sits elsewhere or nowhere: all or none",
                LINE2, "beggar(0, 0); mend(0, 3, 50)", Script.law("r"), Script.bytes(0, 99, 99), "fits(0, 0, 0, 0) = 100; fits(0, 0, 0, 1) = 0",
                "sits(0, 1); fits(0, 0, 0, 0) = 100; fits(0, 1, 0, 0) = 10; fits(0, 1, 0, 1) = 0; put(0, 1, 98)",
                "fits(0, 0, 0, 0) = 0; fits(0, 0, 0, 1) = NOT; fits(0, 1, 0, 0) = 90");
        Script.sentence(20, "HAD, all that fit, within a few",
                LINE1, "beggar(0, 1); sits(0, 0)", Script.law("r"), Script.bytes(0, 99, 98, 97, 97),
                "fits(0, 0, 0, 0) = 1; fits(0, 0, 0, 1) = 11; row(0, 0, 3); put(0, 0, 99); put(0, 1, 98); put(0, 2, 97)",
                "fits(0, 0, 0, 0) = 89; fits(0, 0, 0, 1) = 11");
    }

    private static void given() {
        Script.sentence(20, "GIVEN, an empty BOOK: by all 10", LINE1, "row(0, 0, 0); fits(0, 0, 0, 2) = 10; fits(0, 0, 0, 3) = 0");
        Script.sentence(20, "GIVEN by none: 0, NOT", LINE1, Script.bytes(0, 98), "fits(0, 0, 0, 2) = 0; fits(0, 0, 0, 3) = NOT");
        Script.sentence(20, "GIVEN by 9 alone",
                LINE1, Script.law("a/9"), Script.bytes(0, 99, 98), "fits(0, 0, 0, 2) = 1; fits(0, 0, 0, 3) = 9; put(0, 1, 99)",
                "fits(0, 0, 0, 2) = 9; fits(0, 0, 0, 3) = 0; of(0, 2) = 3");
        Script.sentence(20, "GIVEN by 0 alone",
                LINE1, Script.law("!a"), Script.bytes(0, 99, 98), "fits(0, 0, 0, 2) = 1; fits(0, 0, 0, 3) = 0; put(0, 1, 99)",
                "fits(0, 0, 0, 2) = 9; fits(0, 0, 0, 3) = 1");
        Script.sentence(20, "GIVEN, on another BRIDGE: all or none",
                LINE2, Script.law("a"), Script.bytes(0, 99, 96), "fits(0, 0, 0, 2) = 1; fits(0, 0, 0, 3) = 3; fits(0, 0, 1, 2) = 10",
                "fits(0, 0, 1, 3) = 0; mend(0, 2, 4); fits(0, 0, 0, 3) = 3; fits(0, 0, 1, 2) = 0; fits(0, 0, 1, 3) = NOT");
        Script.sentence(20, "GIVEN, by so much that he has more",
                LINE1, "beggar(9, 0); sits(0, 0); mend(0, 3, 5)", Script.law("r"), Script.bytes(0, 99, 99, 98),
                "fits(0, 0, 0, 2) = 5; fits(0, 0, 0, 3) = 5; put(0, 2, 99); fits(0, 0, 0, 2) = 5; fits(0, 0, 0, 3) = 0");
    }

    private static void fined() {
        Script.sentence(21, "v (0 .. 9999)",
                "beggar(1, 1); mend(0, 3, 99); fined(0, -1) = BAD; fined(0, 10000) = BAD; fined(0, LEAST) = BAD; fined(0, MOST) = BAD",
                "fined(0, 0) = 0; fined(0, 1) = 1; fined(0, 9999) = 9999; of(0, 3) = 99");
        Script.sentence(21, "no such BEGGAR",
                LINE2, "beggar(1, 1); fined(-1, 0) = BAD; fined(1, 0) = BAD; fined(9, 0) = BAD; fined(LEAST, 0) = BAD; fined(MOST, 0) = BAD",
                "fined(0, 0) = 0");
        Script.sentence(21, "none has more than nothing: 0",
                Script.times(9, "beggar(1, 1)"), "mend(0, 3, 9); fined(0, 9999) = 0; fined(8, 9999) = 0; fined(8, 10000) = BAD",
                "fined(0, -1) = BAD; fined(9, 0) = BAD; fined(0, 0) = 0");
        Script.sentence(21, "who has just nothing, who has one more",
                "beggar(1, 1); beggar(1, 1); mend(0, 3, 9); mend(1, 3, 10); fined(0, 7) = 0; fined(1, 7) = 7; mend(0, 3, 10); fined(0, 7) = 3",
                "fined(1, 7) = 3; mend(0, 7, 10); fined(0, 7) = 0; mend(0, 7, 0); fined(0, 7) = 3; mend(0, 3, 0); fined(1, 7) = 7");
        Script.sentence(21, "cut, not rounded",
                "beggar(1, 1); beggar(1, 1); mend(0, 3, 10); mend(1, 3, 11); fined(0, 1) = 0; fined(1, 1) = 0; fined(0, 2) = 0",
                "fined(1, 2) = 1; fined(0, 3) = 1; fined(1, 3) = 2; fined(0, 5) = 1; fined(1, 5) = 3");
        Script.sentence(21, "all nine, the most",
                Script.times(9, "beggar(1, 1)"), "mend(0, 7, 0)", Script.each(9, "mend(#, 3, 99)"), "fined(8, 9999) = 1111; fined(0, 9) = 1",
                "fined(0, 8) = 0; mend(0, 3, 98); fined(8, 9999) = 1112; fined(0, 9999) = 1101");
        Script.sentence(21, "wherever they sit", LINE1, "beggar(1, 1); beggar(1, 1); sits(0, 0); mend(0, 3, 10); mend(1, 3, 10); fined(1, 8) = 4");
    }

    private static void claim() {
        Script.sentence(22, "PLACES 0 .. 7",
                LINE8, "claim(-1) = BAD; claim(8) = BAD; claim(LEAST) = BAD; claim(MOST) = BAD; claim(0) = 0; claim(7) = 0");
        Script.sentence(22, "the first and the last PLACE",
                "bridge(7, 1); bridge(1, 1); beggar(1, 1); beggar(1, 1); sits(0, 0); sits(1, 1); claim(0) = 20; claim(7) = 10; claim(1) = 10",
                "claim(6) = 0; mend(0, 3, 10); claim(0) = 11; claim(7) = 1");
        Script.sentence(22, "all nine with nothing: 90; all with more: 9",
                LINE1, Script.each(9, "beggar(1, 1); sits(#, 0)"), "claim(0) = 90; claim(1) = 90; claim(2) = 0", Script.each(9, "mend(#, 3, 99)"),
                "claim(0) = 9; claim(1) = 9; mend(0, 7, 99); claim(0) = 90");
        Script.sentence(22, "MEANS of so much as POOR",
                LINE1, "beggar(1, 1); sits(0, 0); mend(0, 3, 9); claim(0) = 10; mend(0, 3, 10); claim(0) = 1; mend(0, 7, 10); claim(0) = 10");
        Script.sentence(22, "nowhere: at no PLACE; on one that fell, too",
                LINE1, "beggar(1, 1); claim(0) = 0; claim(1) = 0; sits(0, 0); mend(0, 1, 0); claim(0) = 10");
    }

    private static void byTurnsIsBad() {
        for (String nt : new String[] {"-1", "0", "1", "20", "99", "121", "199", "221", "299", "321", "399", "400", "420", "1000", "10100",
            "-100", "-105", "-300", "LEAST", "MOST"}) {
            Script.sentence(23, "n (1 .. 3), t (0 .. 20)",
                    LINE1, "byTurns(0, " + nt + ", 0) = BAD; byTurns(0, " + nt + ", 1) = BAD");
        }
        Script.sentence(23, "n 1 to 3, t 0 and 20",
                LINE1, Script.each(2, "byTurns(0, 100, 0) = 99; byTurns(0, 200, 0) = 99; byTurns(0, 300, 0) = 99; byTurns(0, 120, 0) = 59"),
                "byTurns(0, 220, 0) = 59; byTurns(0, 320, 0) = 59; byTurns(0, 119, 0) = 61; byTurns(0, 301, 0) = 97");
        Script.sentence(23, "no such BRIDGE, no such what",
                LINE2, "byTurns(-1, 100, 0) = BAD; byTurns(2, 100, 0) = BAD; byTurns(LEAST, 100, 0) = BAD; byTurns(MOST, 100, 0) = BAD",
                "byTurns(0, 100, -1) = BAD; byTurns(0, 100, 2) = BAD; byTurns(0, 100, LEAST) = BAD; byTurns(0, 100, MOST) = BAD",
                "byTurns(1, 100, 1) = 9");
    }

    private static void byTurns() {
        String four = Script.law("(h=0)*4");
        Script.sentence(23, "without BEGGARS: nothing, 9", LINE8, "byTurns(7, 120, 1) = 9; byTurns(7, 320, 1) = 9; byTurns(7, 320, 0) = 59");
        Script.sentence(23, "one that fell: 0, and nothing helps",
                LINE1, four, "beggar(0, 0); mend(0, 1, 0); byTurns(0, 105, 0) = 0; byTurns(0, 105, 1) = 9; byTurns(0, 320, 0) = 0",
                "byTurns(0, 320, 1) = 9");
        Script.sentence(23, "it falls whatever they do", LINE1, Script.law("20"), "beggar(0, 0); byTurns(0, 305, 0) = 0; byTurns(0, 305, 1) = 9");
        Script.sentence(23, "of like ones nothing first, then the least",
                LINE1, four, "beggar(0, 0); beggar(0, 0); beggar(0, 0); byTurns(0, 100, 1) = 9; byTurns(0, 105, 1) = 0; byTurns(0, 105, 0) = 99",
                "mend(0, 3, 10); byTurns(0, 105, 1) = 1; mend(1, 3, 10); byTurns(0, 105, 1) = 2; sits(2, 0); byTurns(0, 105, 1) = 9");
        Script.sentence(23, "the last BEGGAR, from wherever",
                LINE8, four, Script.times(9, "beggar(0, 0)"), Script.each(8, "mend(#, 3, 99)"), "byTurns(7, 120, 1) = 8; byTurns(7, 120, 0) = 99",
                "sits(8, 0); byTurns(7, 120, 1) = 8; byTurns(7, 120, 0) = 99; of(8, 6) = 0; sits(8, 7); byTurns(7, 120, 1) = 9");
        Script.sentence(23, "n is of both together: 1 the engineer alone, 2 and the banker, 3 and the engineer again",
                LINE1, four, "beggar(0, 0); beggar(0, 0); sits(0, 0); byTurns(0, 105, 0) = 99; byTurns(0, 105, 1) = 9; byTurns(0, 205, 0) = 99",
                "byTurns(0, 205, 1) = 1; byTurns(0, 305, 0) = 99; byTurns(0, 305, 1) = 9; mend(1, 3, 10); byTurns(0, 205, 0) = 79",
                "byTurns(0, 205, 1) = 9; byTurns(0, 305, 0) = 79");
        Script.sentence(23, "the banker gives 20",
                LINE1, Script.law("r"), "beggar(0, 0); beggar(0, 0); sits(0, 0); sits(1, 0); mend(0, 7, 20); byTurns(0, 205, 0) = 99",
                "mend(0, 7, 19); byTurns(0, 205, 0) = 94; mend(0, 7, 21); mend(0, 3, 1); byTurns(0, 205, 0) = 99; mend(0, 3, 2)",
                "byTurns(0, 205, 0) = 94; of(0, 3) = 2; of(1, 3) = 0");
        Script.sentence(23, "99 at most",
                LINE1, Script.law("r*5"), "beggar(0, 6); sits(0, 0); mend(0, 3, 85); mend(0, 7, 98); byTurns(0, 202, 0) = 94; byTurns(0, 201, 0) = 94",
                "mend(0, 3, 79); byTurns(0, 202, 0) = 94; mend(0, 3, 78); byTurns(0, 202, 0) = 99; mend(0, 3, 99); byTurns(0, 202, 0) = 94");
        Script.sentence(23, "the banker wants the least, down to 0",
                LINE1, Script.law("1+r"), "beggar(0, 0); sits(0, 0); mend(0, 1, 3); byTurns(0, 102, 0) = 1; byTurns(0, 202, 0) = 0; byTurns(0, 202, 1) = 9",
                "mend(0, 1, 4); byTurns(0, 202, 0) = 0; mend(0, 1, 5); byTurns(0, 202, 0) = 1; byTurns(0, 302, 0) = 1");
        Script.sentence(23, "the banker does nothing, if that is least",
                LINE1, Script.law("h"), "beggar(0, 0); sits(0, 0); byTurns(0, 205, 0) = 94; byTurns(0, 105, 0) = 94; mend(0, 3, 10)",
                "byTurns(0, 205, 0) = 99");
        Script.sentence(23, "the engineer does nothing, if that is most",
                LINE1, Script.law("h+r"), "beggar(0, 0); byTurns(0, 120, 1) = 9; byTurns(0, 120, 0) = 99; byTurns(0, 320, 1) = 9");
        Script.sentence(23, "all that may be, nine and three", LINE8, Script.times(9, "beggar(0, 0)"), "byTurns(7, 320, 0) = 99; byTurns(7, 320, 1) = 9",
                "byTurns(7, 220, 0) = 59; byTurns(7, 120, 1) = 0");
    }

    private static void drawnIsBad() {
        for (String nml : new String[] {"0", "-1", "12", "100", "106", "6012", "9912", "10000", "10012", "10013", "10099", "10113", "10199",
            "16013", "16100", "16112", "19900", "20012", "300000", "306013", "306100", "310100", "316012", "1000000", "-10100", "-10101",
            "-306000", "LEAST", "MOST"}) {
            Script.sentence(24, "n (1 .. 30), m (1 .. 60), LUCK (0 .. 12)",
                    LINE1, "beggar(1, 1); drawn(1, " + nml + ", -1) = BAD; drawn(1, " + nml + ", 0) = BAD");
        }
        Script.sentence(24, "n 1 and 30, m 1 and 60, LUCK 0 and 12",
                LINE1, "drawn(1, 10100, -1) = 1; drawn(1, 10112, -1) = 1; drawn(1, 16000, -1) = 0; drawn(1, 16012, -1) = 0",
                "drawn(1, 300100, -1) = 30; drawn(1, 300112, 0) = 30; drawn(1, 306000, -1) = 0; drawn(1, 306012, 0) = 0",
                "drawn(1, 304900, 0) = 30; drawn(1, 305000, 0) = 0");
        Script.sentence(24, "no such BRIDGE",
                LINE2, "drawn(1, 10100, -2) = BAD; drawn(1, 10100, 2) = BAD; drawn(1, 10100, LEAST) = BAD; drawn(1, 10100, MOST) = BAD",
                "drawn(1, 10100, 1) = 1; drawn(1, 10100, -1) = 2");
        Script.sentence(24, "without BRIDGES, without BEGGARS, all of them",
                "drawn(1, 306012, -1) = 0; beggar(1, 1); drawn(1, 306012, -1) = 0; drawn(1, 306012, 0) = BAD", LINE8,
                "drawn(1, 304900, -1) = 240; drawn(1, 304900, 7) = 30; drawn(1, 304900, 8) = BAD");
    }

    private static void drawn() {
        // SEED 1: 1103527590 ahead of the first day: >>> 24 65 (5 of 12), >>> 16 16838 (8 of 30); SEED 2: -2087924461: 131 (11), 33676 (16)
        String one = LINE1 + Script.law("r*20") + "beggar(0, 0); sits(0, 0); mend(0, 7, 0); mend(0, 1, 20);";
        Script.sentence(24, "if it is below LUCK",
                one, "drawn(1, 10105, 0) = 1; drawn(1, 10106, 0) = 0; drawn(1, 10112, 0) = 0; drawn(1, 10100, 0) = 1; mend(0, 7, 7)",
                "drawn(1, 10106, 0) = 0; mend(0, 7, 8); drawn(1, 10106, 0) = 1; of(0, 3) = 0");
        Script.sentence(24, "if it is below LUCK, of a z below 0",
                one, "drawn(2, 10111, 0) = 1; drawn(2, 10112, 0) = 0; drawn(2, 10100, 0) = 1; mend(0, 7, 15); drawn(2, 10112, 0) = 0",
                "mend(0, 7, 16); drawn(2, 10112, 0) = 1");
        Script.sentence(24, "LUCK 0: nobody ever; a SEED of any int",
                one, "drawn(0, 306000, 0) = 30; drawn(1, 306000, 0) = 30; drawn(-1, 306000, 0) = 30; drawn(LEAST, 306000, 0) = 30",
                "drawn(MOST, 306000, 0) = 30");
        Script.sentence(24, "z goes on from county to county, an int that wraps",
                one, "drawn(1, 300101, 0) = 28; drawn(1, 300106, 0) = 15; drawn(1, 300111, 0) = 4; drawn(1, 300112, 0) = 0",
                "drawn(2, 300101, 0) = 26; drawn(2, 300112, 0) = 2; drawn(-1, 300101, 0) = 30; drawn(-1, 300102, 0) = 26",
                "drawn(-1, 300112, 0) = 3; drawn(MOST, 300106, 0) = 19; drawn(MOST, 300112, 0) = 1; drawn(LEAST, 300106, 0) = 20",
                "drawn(LEAST, 300112, 0) = 1");
        // the first of nine comes into 29 by SEED 11, the last into 16 by SEED 2
        Script.sentence(24, "the how many-th BEGGAR, the first and the last of nine",
                LINE1, Script.law("r*20"), Script.times(9, "beggar(0, 0)"), "mend(0, 7, 0); mend(0, 1, 20); drawn(2, 10112, 0) = 1; sits(8, 0)",
                "drawn(2, 10112, 0) = 0; drawn(11, 10112, 0) = 1; sits(8, -1); sits(7, 0); drawn(2, 10112, 0) = 1; sits(7, -1); sits(0, 0)",
                "drawn(11, 10112, 0) = 0; drawn(2, 10112, 0) = 1; drawn(1, 300112, 0) = 28; drawn(LEAST, 300112, 0) = 27");
        // SEED 1: 8 ahead of the first day, 6 ahead of the second; 99 less 9 and 6 more is not above 98
        Script.sentence(24, "99 at most",
                LINE1, Script.law("r"), "beggar(0, 9); sits(0, 0); mend(0, 7, 98); mend(0, 3, 98); mend(0, 1, 2); drawn(1, 10212, 0) = 1",
                "drawn(5, 10212, 0) = 1; drawn(59, 10212, 0) = 1; mend(0, 1, 1); drawn(1, 10212, 0) = 0; drawn(5, 10212, 0) = 0");
        Script.sentence(24, "at the ends: how many STAND, how often one",
                LINE2, "beggar(4, 4); sits(0, 0); beggar(9, 4); sits(1, 1); mend(1, 3, 5); drawn(1, 306003, -1) = 9; drawn(1, 306003, 0) = 3",
                "drawn(1, 306003, 1) = 6; drawn(-1, 306003, -1) = 3; drawn(-1, 306003, 0) = 1; drawn(LEAST, 306003, -1) = 5",
                "drawn(LEAST, 306003, 1) = 4; drawn(MOST, 306003, -1) = 6");
    }
}
