/** Promises 1 to 9: each sentence that names a boundary case. */
public final class EdgesCountyTest {
    private static final String LINE1 = Script.line(1), LINE2 = Script.line(2), LINE8 = Script.line(7) + "bridge(70, 4);";

    public static void main(String[] args) {
        aNewObject();
        bridge();
        beggar();
        beggars();
        beggarsNotSo();
        mend();
        of();
        feed();
        law();
        faults();
        values();
        lines();
        cracks();
        Due.end();
    }

    private static void aNewObject() {
        Script.sentence(1, "a county without bridges",
                Script.each(6, "count(#) = 0"), Script.each(7, "of(0, #) = VOID"), "of(0, 7) = 9; of(0, 8) = 0",
                "of(0, 9) = VOID; of(0, 10) = VOID", Script.each(5, "led(#) = 0"),
                "cracks(0) = BAD; later(0, 0, 0) = BAD; later(0, 0, 1) = BAD; falls(0) = BAD; rich(0) = BAD",
                "without(0) = BAD; lasting(0) = BAD; fined(0, 0) = BAD; byTurns(0, 100, 0) = BAD",
                "repair(0, 1) = BAD; given(0, 1) = BAD; sits(0, -1) = VOID; mend(0, 0, 1) = VOID; mend(0, 3, 1) = VOID");
        Script.sentence(1, "nothing STANDS, nobody is there",
                "county(0, 0) = 0; county(0, 1) = 0; county(0, 2) = 0; county(60, 0) = 0; county(60, 1) = 0",
                "county(60, 2) = 0; falls(-1) = NOT; moved(0, 0) = 0; moved(20, 1) = 0; moved(20, 2) = 900",
                "lasting(-1) = 0; way(7, 0) = NOT; way(7, 1) = NOT; way(7, 2) = 0; way(7, 3) = 0; needed() = 0",
                "claim(0) = 0; claim(7) = 0; drawn(1, 306012, -1) = 0; day() = 0; led(0) = 1; led(4) = 0; of(0, 8) = 1");
        Script.sentence(1, "no change, no image, no trace, no byte",
                "undo() = STATE; redo() = STATE; back() = STATE; trace(0) = BAD; act(0, 0, 1) = 0; law() = -100");
        Script.sentence(1, "SHELVES each hold nothing at first",
                Script.each(6, "taken(#, 0) = -11; put(#, 0, 1) = -11; element(#, 0) = LEASTLONG; shift(#, 0, 0, 0, 0) = -11"));
    }

    private static void bridge() {
        Script.sentence(2, "PLACES 0 .. 7: too small, too large",
                "bridge(-1, 1) = BAD; bridge(-10, 1) = BAD; bridge(-12, 1) = BAD; bridge(8, 1) = BAD; bridge(9, 1) = BAD",
                "bridge(18, 1) = BAD; bridge(69, 1) = BAD; bridge(78, 1) = BAD; bridge(79, 1) = BAD; bridge(80, 1) = BAD",
                "bridge(87, 1) = BAD; bridge(90, 1) = BAD; bridge(98, 1) = BAD; bridge(100, 1) = BAD; bridge(101, 1) = BAD",
                "bridge(701, 1) = BAD; bridge(LEAST, 1) = BAD; bridge(MOST, 1) = BAD; count(0) = 0; bridge(1, 1) = 0");
        Script.sentence(2, "FROM, TO, unlike",
                "bridge(0, 1) = BAD; bridge(11, 1) = BAD; bridge(22, 1) = BAD; bridge(33, 1) = BAD; bridge(44, 1) = BAD",
                "bridge(55, 1) = BAD; bridge(66, 1) = BAD; bridge(77, 1) = BAD; bridge(88, 1) = BAD; bridge(99, 1) = BAD",
                "count(0) = 0");
        Script.sentence(2, "PLACES 0 .. 7: the first and the last",
                "bridge(1, 1) = 0; bridge(7, 1) = 1; bridge(70, 1) = 2; bridge(76, 1) = 3; bridge(67, 1) = 4; bridge(10, 1) = 5",
                "of(0, 9) = 0; of(0, 10) = 1; of(1, 9) = 0; of(1, 10) = 7; of(2, 9) = 7; of(2, 10) = 0; of(3, 9) = 7",
                "of(3, 10) = 6; of(4, 9) = 6; of(4, 10) = 7; of(5, 9) = 1; of(5, 10) = 0");
        Script.sentence(2, "SPAN (1 .. 9)",
                "bridge(1, 0) = BAD; bridge(1, -1) = BAD; bridge(1, 10) = BAD; bridge(1, LEAST) = BAD; bridge(1, MOST) = BAD",
                "count(0) = 0; bridge(1, 1) = 0; bridge(1, 9) = 1; of(0, 0) = 1; of(1, 0) = 9");
        Script.sentence(2, "SOUND 99 at first, ALMS 3 at first",
                LINE8, Script.each(8, "of(#, 1) = 99; of(#, 2) = 3"));
        Script.sentence(2, "BRIDGES 0 .. 7, as they come; FULL: 8",
                Script.each(8, "count(0) = #; bridge(34, 5) = #"), "count(0) = 8; bridge(34, 5) = FULL; bridge(1, 1) = FULL",
                "count(0) = 8; of(7, 0) = 5; of(8, 0) = VOID");
        Script.sentence(2, "BAD is named ahead of FULL",
                LINE8, "bridge(11, 1) = BAD; bridge(8, 1) = BAD; bridge(-1, 1) = BAD; bridge(1, 0) = BAD; bridge(1, 10) = BAD",
                "bridge(1, 1) = FULL");
        Script.sentence(2, "a bridge that comes is no change of mend()", "bridge(1, 4) = 0; count(3) = 0; undo() = STATE");
    }

    private static void beggar() {
        Script.sentence(3, "ASKS (0 .. 9)",
                "beggar(-1, 0) = BAD; beggar(10, 0) = BAD; beggar(LEAST, 0) = BAD; beggar(MOST, 0) = BAD; count(1) = 0",
                "beggar(0, 5) = 0; beggar(9, 5) = 1; of(0, 4) = 0; of(1, 4) = 9; of(0, 5) = 5");
        Script.sentence(3, "SPENDS (0 .. 9)",
                "beggar(0, -1) = BAD; beggar(0, 10) = BAD; beggar(0, LEAST) = BAD; beggar(0, MOST) = BAD; count(1) = 0",
                "beggar(5, 0) = 0; beggar(5, 9) = 1; of(0, 5) = 0; of(1, 5) = 9; of(0, 4) = 5");
        Script.sentence(3, "MEANS 0 at first, SITS nowhere at first",
                LINE1, Script.each(9, "beggar(4, 4) = #; of(#, 3) = 0; of(#, 6) = -1"));
        Script.sentence(3, "BEGGARS 0 .. 8, as they come; FULL: 9",
                Script.each(9, "count(1) = #; beggar(1, 2) = #"), "count(1) = 9; beggar(1, 2) = FULL; count(1) = 9",
                "of(8, 5) = 2; of(9, 5) = VOID");
        Script.sentence(3, "BAD is named ahead of FULL",
                Script.times(9, "beggar(1, 2)"), "beggar(-1, 0) = BAD; beggar(10, 0) = BAD; beggar(0, -1) = BAD",
                "beggar(0, 10) = BAD; beggar(0, 0) = FULL");
    }

    private static void beggars() {
        String nine = Script.bytes(0, 1, 1, 1, -1, 2, 2, 2, -1, 3, 3, 3, -1, 4, 4, 4, -1, 5, 5, 5, -1, 6, 6, 6, -1, 7, 7, 7,
                -1, 8, 8, 8, -1, 9, 9, 9, -1);
        Script.sentence(4, "n (1 .. 9)",
                nine, "beggars(0, 0, 0) = BAD; beggars(0, 0, -1) = BAD; beggars(0, 0, 10) = BAD; beggars(0, 0, LEAST) = BAD",
                "beggars(0, 0, MOST) = BAD; count(1) = 0; beggars(0, 4, 1) = 1; count(1) = 1; of(0, 3) = 2");
        Script.sentence(4, "n 9, all of them",
                nine, "beggars(0, 0, 9) = 9; count(1) = 9", Script.each(9, "of(#, 6) = -1"),
                "of(0, 3) = 1; of(0, 4) = 1; of(0, 5) = 1; of(8, 3) = 9; of(8, 4) = 9; of(8, 5) = 9");
        Script.sentence(4, "SHELVES 0 .. 5: BAD",
                nine, "beggars(-1, 0, 1) = BAD; beggars(6, 0, 1) = BAD; beggars(LEAST, 0, 1) = BAD; beggars(MOST, 0, 1) = BAD",
                Script.bytes(5, 1, 1, 1, -1), "beggars(5, 0, 1) = 1");
        Script.sentence(4, "-12: no ROW of bytes",
                "row(0, 1, 8); row(1, 2, 8); row(2, 3, 8); row(3, 4, 8); row(4, 1, 0); body(0); keep(5, 0)",
                Script.each(6, "beggars(#, 0, 1) = -12"), "count(1) = 0");
        Script.sentence(4, "BAD is named ahead of -12",
                "row(0, 1, 8)", "beggars(0, 0, 0) = BAD; beggars(0, 0, 10) = BAD; beggars(0, -1, 1) = -12");
        Script.sentence(4, "a SHELF that holds nothing is missing: it ends there",
                "beggars(0, 0, 1) = 0; beggars(5, 0, 9) = 0; beggars(0, -1, 1) = 0; beggars(0, 0, 10) = BAD",
                "row(0, 1, 8); keep(0, -1); beggars(0, 0, 1) = 0; count(1) = 0");
        Script.sentence(4, "a ROW of no elements", "row(0, 0, 0) = 1; beggars(0, 0, 9) = 0; count(1) = 0");
        Script.sentence(4, "ends at a place below 0, too",
                nine, "beggars(0, -1, 9) = 0; beggars(0, -4, 9) = 0; beggars(0, -8, 9) = 0; beggars(0, LEAST, 9) = 0",
                "count(1) = 0");
        Script.sentence(4, "ends at a place below 0, also where all ahead of the ROW were as said, were it 0",
                LINE1, "row(0, 0, 8); beggars(0, -1, 1) = 0; beggars(0, -2, 1) = 0; beggars(0, -3, 1) = 0; beggars(0, -4, 9) = 0",
                "beggars(0, -5, 9) = 0; beggars(0, -2147483647, 9) = 0; count(1) = 0; beggars(0, 0, 9) = 2");
        Script.sentence(4, "ends at a place beyond the end",
                nine, "beggars(0, 36, 1) = 0; beggars(0, 37, 1) = 0; beggars(0, MOST, 1) = 0; beggars(0, 2147483644, 9) = 0",
                "beggars(0, 32, 1) = 1; of(0, 3) = 9");
        Script.sentence(4, "ends within a four, too",
                LINE1, Script.bytes(0, 1, 2, 3, -1, 5, 6, 7), "beggars(0, 0, 9) = 1; beggars(0, 4, 9) = 0; count(1) = 1",
                Script.bytes(1, 5, 6, 7), "beggars(1, 0, 1) = 0; row(2, 0, 1); beggars(2, 0, 1) = 0; row(2, 0, 2)",
                "beggars(2, 0, 1) = 0; row(2, 0, 4); beggars(2, 1, 1) = 0; beggars(2, 0, 1) = 1; count(1) = 2");
        Script.sentence(4, "from a place on, also between the fours",
                Script.bytes(0, 7, 1, 2, 3, -1, 4, 5, 6, -1), "beggars(0, 1, 9) = 2; of(0, 3) = 1; of(0, 4) = 2; of(0, 5) = 3",
                "of(1, 3) = 4; of(1, 4) = 5; of(1, 5) = 6; of(1, 6) = -1");
        Script.sentence(4, "the whole ROW of 60: 9 of its 15",
                "row(0, 0, 60)", LINE1, "beggars(0, 0, 9) = 9; count(1) = 9");
        Script.sentence(4, "ends where BEGGARS are FULL: those ahead came",
                nine, Script.times(7, "beggar(9, 8)"), "beggars(0, 0, 3) = 2; count(1) = 9; of(7, 3) = 1; of(8, 3) = 2",
                "beggars(0, 0, 1) = 0; beggars(0, 0, 9) = 0; count(1) = 9");
        Script.sentence(4, "beggars that come are no change of mend(), nor a seat",
                LINE1, Script.bytes(0, 1, 1, 1, 0), "beggars(0, 0, 1) = 1; count(3) = 0; led(1) = 0; of(0, 6) = 0");
    }

    private static void beggarsNotSo() {
        Script.sentence(4, "the most and the least of each number",
                LINE2, Script.bytes(0, 99, 9, 9, 1, 0, 0, 0, -1, 0, 0, 0, 0), "beggars(0, 0, 3) = 3",
                "of(0, 3) = 99; of(0, 4) = 9; of(0, 5) = 9; of(0, 6) = 1; of(1, 3) = 0; of(1, 4) = 0; of(1, 5) = 0",
                "of(1, 6) = -1; of(2, 6) = 0");
        int[][] wrong = {{100, 0, 0, 0}, {127, 0, 0, 0}, {-1, 0, 0, 0}, {-128, 0, 0, 0}, {0, 10, 0, 0}, {0, 127, 0, 0},
            {0, -1, 0, 0}, {0, -128, 0, 0}, {0, 0, 10, 0}, {0, 0, 127, 0}, {0, 0, -1, 0}, {0, 0, -128, 0}, {0, 0, 0, 2},
            {0, 0, 0, 127}, {0, 0, 0, -2}, {0, 0, 0, -128}};
        for (int[] w : wrong) {
            Script.sentence(4, "ends where one is not so, those ahead came",
                    LINE2, Script.bytes(0, 11, 1, 2, 1, w[0], w[1], w[2], w[3], 12, 3, 4, 0),
                    "beggars(0, 4, 2) = 0; count(1) = 0; beggars(0, 0, 3) = 1; count(1) = 1; of(0, 3) = 11; of(0, 6) = 1");
        }
        Script.sentence(4, "SITS: a BRIDGE that is there, none",
                Script.bytes(0, 1, 1, 1, 0), "beggars(0, 0, 1) = 0; count(1) = 0; bridge(1, 1); beggars(0, 0, 1) = 1");
        Script.sentence(4, "SITS: a BRIDGE that is there, the last of all",
                LINE8, Script.bytes(0, 1, 1, 1, 7, 1, 1, 1, 8), "beggars(0, 4, 1) = 0; beggars(0, 0, 2) = 1; of(0, 6) = 7");
    }

    private static void mend() {
        int[] least = {1, 0, 0, 0, 0, 0, -1, 0, 0};
        int[] most = {9, 99, 9, 99, 9, 9, 1, 99, 6};
        int[] first = {4, 99, 3, 0, 4, 4, -1, 9, 0};
        for (int what = 0; what < 9; what++) {
            String mend = "mend(0, " + what + ", ";
            String of = "of(0, " + what + ") = ";
            Script.sentence(5, "what " + what + " too small, too large; what it was stays",
                    LINE2, "beggar(4, 4)", mend + (least[what] - 1) + ") = VOID", mend + (most[what] + 1) + ") = VOID",
                    mend + "LEAST) = VOID", mend + "MOST) = VOID", of + first[what], "count(3) = 0");
            Script.sentence(5, "what " + what + " the least, the most: what it was",
                    LINE2, "beggar(4, 4)", mend + least[what] + ") = " + first[what], of + least[what],
                    mend + most[what] + ") = " + least[what], of + most[what], mend + least[what] + ") = " + most[what]);
            String[] numbers = what >= 7 ? new String[] {"-1", "1", "2", "LEAST", "MOST"}
                    : what >= 3 ? new String[] {"-1", "1", "LEAST", "MOST"} : new String[] {"-1", "2", "LEAST", "MOST"};
            for (String number : numbers) {
                Script.sentence(5, "what " + what + " of no such number",
                        LINE2, "beggar(4, 4)", "mend(" + number + ", " + what + ", 1) = VOID; count(3) = 0");
            }
        }
        Script.sentence(5, "no such what",
                LINE1, "beggar(4, 4); mend(0, -1, 1) = VOID; mend(0, 9, 1) = VOID; mend(0, 10, 1) = VOID; mend(0, 11, 1) = VOID",
                "mend(0, LEAST, 1) = VOID; mend(0, MOST, 1) = VOID; of(0, 9) = 0; of(0, 10) = 1");
        Script.sentence(5, "the last BRIDGE, the last BEGGAR",
                LINE8, Script.times(9, "beggar(1, 1)"), "mend(7, 0, 5) = 4; mend(8, 0, 5) = VOID; mend(8, 3, 5) = 0",
                "mend(9, 3, 5) = VOID; mend(8, 6, 7) = -1; mend(8, 6, 8) = VOID; of(7, 0) = 5; of(8, 3) = 5; of(8, 6) = 7");
        Script.sentence(5, "a BRIDGE's number is not a BEGGAR's",
                LINE2, "beggar(1, 1); mend(1, 3, 5) = VOID; mend(1, 6, 0) = VOID; beggar(1, 1); beggar(1, 1)",
                "mend(2, 0, 5) = VOID; mend(2, 3, 5) = 0; mend(1, 1, 5) = 99");
        Script.sentence(5, "SITS, if there is no BRIDGE: nowhere alone",
                "beggar(1, 1); mend(0, 6, 0) = VOID; mend(0, 6, -1) = -1; mend(0, 6, -2) = VOID; bridge(1, 1); mend(0, 6, 0) = -1",
                "of(0, 6) = 0");
        Script.sentence(5, "POOR, DAY without bridges and beggars: number 0 for both",
                "mend(0, 7, 99) = 9; mend(0, 8, 6) = 0; mend(1, 7, 1) = VOID; mend(-1, 8, 1) = VOID; of(0, 7) = 99; of(0, 8) = 6");
        Script.sentence(5, "the same number again: what it was",
                LINE1, "mend(0, 0, 4) = 4; mend(0, 1, 99) = 99; mend(0, 7, 9) = 9; mend(0, 8, 0) = 0; count(3) = 0");
        Script.sentence(5, "a BRIDGE of SOUND 0 does not STAND, of 1 it does",
                LINE2, "mend(0, 1, 0) = 99; mend(1, 1, 1) = 99; county(0, 0) = 2; led(4) = 0; led(3) = 0; led(2) = 0");
    }

    private static void of() {
        Script.sentence(6, "no such what",
                LINE1, "beggar(1, 1); of(0, -1) = VOID; of(0, 11) = VOID; of(0, LEAST) = VOID; of(0, MOST) = VOID");
        Script.sentence(6, "no such number",
                LINE2, "beggar(1, 1); beggar(1, 1); beggar(1, 1)",
                "of(2, 0) = VOID; of(2, 1) = VOID; of(2, 2) = VOID; of(2, 9) = VOID; of(2, 10) = VOID",
                "of(3, 3) = VOID; of(3, 4) = VOID; of(3, 5) = VOID; of(3, 6) = VOID; of(1, 7) = VOID; of(1, 8) = VOID",
                Script.each(11, "of(-1, #) = VOID; of(LEAST, #) = VOID; of(MOST, #) = VOID"));
        Script.sentence(6, "the last BRIDGE, the last BEGGAR",
                "bridge(1, 1); bridge(1, 1); bridge(1, 1); bridge(1, 1); bridge(1, 1); bridge(1, 1); bridge(1, 1); bridge(65, 7)",
                Script.times(8, "beggar(1, 1)"), "beggar(6, 8)",
                "of(7, 0) = 7; of(7, 1) = 99; of(7, 2) = 3; of(7, 9) = 6; of(7, 10) = 5; of(8, 0) = VOID; of(8, 9) = VOID",
                "of(8, 3) = 0; of(8, 4) = 6; of(8, 5) = 8; of(8, 6) = -1; of(9, 3) = VOID");
    }

    private static void feed() {
        Script.sentence(7, "a byte (0 .. 255)",
                "feed(-1) = BAD; feed(256) = BAD; feed(LEAST) = BAD; feed(MOST) = BAD; feed(-256) = BAD; count(2) = 0",
                "feed(0) = 1; feed(255) = 2; feed(127) = 3; feed(128) = 4; count(2) = 4");
        Script.sentence(7, "FULL (120); BAD is named ahead of it",
                Script.times(119, "feed(115)"), "count(2) = 119; feed(115) = 120; count(2) = 120; feed(115) = FULL; feed(0) = FULL",
                "feed(-1) = BAD; feed(256) = BAD; count(2) = 120; law() = -101; count(2) = 0; feed(115) = 1");
    }

    private static void law() {
        Script.sentence(8, "THE TAPE is empty then",
                LINE1, Script.tape("7"), "count(2) = 1; law() = 1; count(2) = 0; cracks(0) = 7; law() = -100; cracks(0) = 7");
        Script.sentence(8, "behind a FAULT THE TAPE is empty, THE LAW is as it was",
                LINE1, Script.tape("s;"), "law() = -102; count(2) = 0; cracks(0) = 2", Script.law("9"), "cracks(0) = 9",
                Script.tape("1)"), "law() = -101; count(2) = 0; cracks(0) = 9", Script.law("8"), "cracks(0) = 8");
        Script.sentence(8, "an empty TAPE: it ends too early", "law() = -100; law() = -100; count(2) = 0");
        Script.sentence(8, "at most 120 bytes: 119 of them",
                LINE1, Script.tape("s" + "+0".repeat(59)), "count(2) = 119; law() = 1; cracks(0) = 4");
        Script.sentence(8, "at most 120 bytes: all of them",
                LINE1, Script.tape("11" + "+0".repeat(58) + "+3"), "count(2) = 120; law() = 1; cracks(0) = 14");
        Script.sentence(8, "120 bytes that end too early: the length",
                LINE1, Script.tape("s" + "+s".repeat(59) + "+"), "count(2) = 120; law() = -220; cracks(0) = 2");
        Script.sentence(8, "a fault at the last of 120 bytes",
                LINE1, Script.tape("s" + "+s".repeat(59) + "s"), "count(2) = 120; law() = -219; cracks(0) = 2");
        Script.sentence(8, "120 bytes, behind which no more came",
                LINE1, Script.tape("11" + "+0".repeat(58) + "+3"), "feed(41) = FULL; law() = 1; cracks(0) = 14");
        Script.sentence(8, "it is told of all BRIDGES, and of days that pass",
                LINE8, Script.law("20"), Script.each(8, "cracks(#) = 20"), "day() = 8; of(7, 1) = 79; later(4, 7, 0) = 0");
        Script.sentence(8, "a TEXT is no change of mend()", LINE1, Script.law("9"), "count(3) = 0; undo() = STATE; cracks(0) = 9");
    }

    private static void fault(String text, int place) {
        String tape = Script.tape(text);
        Script.sentence(8, "the FAULT of " + text, LINE1, tape, place < 0 ? "law() = 1" : "law() = " + (-100 - place),
                "count(2) = 0");
    }

    private static void allRight(String... texts) {
        for (String t : texts) {
            fault(t, -1);
        }
    }

    /** The place of the fault is where the sign ^ stands, that is left out. */
    private static void wrongAt(String... texts) {
        for (String t : texts) {
            fault(t.replace("^", ""), t.indexOf('^'));
        }
    }

    private static void faults() {
        allRight("s", "h", "r", "a", "d", "x", "0", "12", "123", "1234", "0000", "s?h", "s?h;r?a;d?x;s", "s;h", "(s)");
        wrongAt("1234^5", "0000^0", "1234^s", "s+1234^5", "(1234^5)", "s^s", "s^1", "1^s", "(s)^s", "(s)^1",
                "s^(s)", "(s)^(s)", "1^(s)");
        wrongAt("^ ", "^ s", "s^ ", "s^ +s", "s+^ s", "1^ 2", "(^ s)", "(s^ )", "s?^ s", "s;^ s");
        wrongAt("^S", "^q", "^A", "^.", "s^,s", "s+^t", "^\u0000", "^\u007f", "^\u0080", "^\u00ff", "s^\u00ff", "s^\u0000", "^\n",
                "s^\r\n", "^:", "^@", "^[");
        wrongAt("s+^", "s-^", "s*^", "s/^", "s%^", "s<^", "s=^", "s>^", "s&^", "s|^", "s?^", "s;^", "s?s;^", "s?s+^", "(^", "(s^",
                "(s+^", "((s)^", "!^", "-^", "!!^", "-(^", "!(s^", "1+2*3<4&^");
        wrongAt("^+s", "^*s", "^/s", "^%s", "^<s", "^=s", "^>s", "^&s", "^|s", "^?s", "^;s", "^)", "^)s", "^;", "^?");
        allRight("-s", "!s", "s--s", "s-!s", "s+-s", "s*-s", "s/!s", "s<-s", "s&!s", "s|-s", "s?-s", "s;!s", "--s", "!-!-s",
                "s-(-s)", "!(s)", "-(s)");
        wrongAt("s+^+s", "s-^+s", "s*^*s", "s/^/s", "s%^%s", "s=^=s", "s<^=s", "s>^=s", "s<^>s", "s&^&s", "s|^|s", "s?^?s",
                "s;^;s", "s^!s", "s^!=s", "s-^*s", "!^+s", "-^*s", "(^+s)", "(^)", "(s+^)", "s?^;s", "s?s;^?s");
        wrongAt("s?s^?s", "s?s^?", "s?s;s?s^?s", "(s^?s)", "(s^;s)", "s?(s^?s)", "s?(s^;s)", "!(s^?s)");
        allRight("s?s;s?s", "s;s;s", "s?s;s", "s;s?s");
        wrongAt("s<s^<s", "s<s^=s", "s=s^>s", "s>s^<s", "s<s+s^<s", "!s<s^<s", "(s<s^<s)", "s|s<s^=s", "s<s&s=s^>s", "s?s<s^<s",
                "s<s?s=s^=s", "s<(s<s)^<s", "(s<s)<s^<s");
        allRight("s<s", "s=s", "s>s", "(s<s)<s", "s<(s<s)", "(s<s)=(s>s)", "s<s&s<s", "s<s|s<s", "s<s?s<s", "s<s;s<s", "s<s&s<s|s<s");
        wrongAt("s^)", "(s)^)", "((s))^)", "s?s^)", "s;s^)", "s+s^)", "(s)+(s)^)");
        allRight("((((((s))))))", "!!!!!!s", "------s", "!-!-!-s", "(!-(!-s))", "(((---s)))", "---(((s)))");
        wrongAt("((((((^(s", "!!!!!!^!s", "------^-s", "((((((^-s", "((((((^!s", "!!!!!!^(s", "------^!s", "(!-(!-^(s", "!-!-!-^!s",
                "((((((^((s", "((((((^(");
        allRight("((((((s))))))+((((((s))))))", "!!!!!!s+!!!!!!s", "(!!!!!s+!!!!!s)", "((((((s-s))))))", "((((((s))))))?((((((s))))))",
                "!!!!!!s;!!!!!!s", "(((((-s))))*((((-s)))))", "-s-s-s-s-s-s-s-s", "!s&!s&!s&!s&!s&!s&!s&!s", "(((((!s+!s)))))",
                "(((s)+(s))+((s)+(s)))+((((((s))))))");
        wrongAt("((((((s+^-s", "(((((-s+-^-s", "s?!!!!!!^!s", "s;!!!!!!^!s", "(!!!!!s+!!!!!^!s)", "((((((s))))))+((((((^(s",
                "((((((s))))))+!!!!!!^!s", "(((((!s+!^!s");
    }

    /** One BRIDGE of SPAN 4, SOUND 90, ALMS 3, on DAY 5; one with nothing and two with more sit there. */
    private static void gives(String text, int due) {
        Script.sentence(8, "what " + text + " gives",
                "bridge(1, 4); mend(0, 1, 90); mend(0, 8, 5)", Script.each(3, "beggar(1, 1); sits(#, 0)"),
                "mend(0, 3, 9); mend(1, 3, 10); mend(2, 3, 11)", Script.law(text), "cracks(0) = " + due);
    }

    private static void gives(int due, String... texts) {
        for (String text : texts) {
            gives(text, due);
        }
    }

    private static void values() {
        gives("s", 4);
        gives("h", 1);
        gives("r", 2);
        gives("a", 3);
        gives("d", 5);
        gives("x-80", 10);
        // held within 0 .. 20
        gives(0, "0", "-1", "0-1", "-9999", "1-2");
        gives(20, "20", "21", "9999", "19+2", "x");
        gives("19", 19);
        gives("0020", 20);
        gives("0007", 7);
        // / and % toward 0
        gives("7/2", 3);
        gives("-7/2+9", 6);
        gives("7/-2+9", 6);
        gives("-7/-2", 3);
        gives("-7%4+9", 6);
        gives("7%-4", 3);
        gives("-7%-4+9", 6);
        gives("1/2", 0);
        gives("-1/2+3", 3);
        // by 0 they give 0
        gives(0, "5/0", "5%0", "0/0", "0%0", "-5/0", "5/(s-4)", "5%(s-4)");
        gives("5/0+7", 7);
        gives("7-5%0", 7);
        gives("1|1/0", 1);
        // ints that wrap: 9999 by itself, by 21, is below 2147483648, by 22 beyond it
        gives("9999*9999*21>0", 1);
        gives("9999*9999*22<0", 1);
        gives("9999*9999*21+9999*9999<0", 1);
        gives("-9999*9999*21-9999*9999>0", 1);
        gives("9999*9999*43%20", 7);
        gives("8192*8192*32<0", 1);
        gives("8192*8192*32=-8192*8192*32", 1);
        gives("-(8192*8192*32)<0", 1);
        gives("-8192*8192*32/-1<0", 1);
        gives("-8192*8192*32%-1", 0);
        gives("8192*8192*64", 0);
        gives("8192*8192*64+5", 5);
        gives("8192*8192*32<1", 1);
        gives("1>8192*8192*32", 1);
        gives("8192*8192*32-1>0", 1);
        // | & < = > ! give 1, 0
        gives(1, "3|0", "0|3", "4|8", "-1|0", "3&4", "1&2", "-1&-1", "!0", "!!7", "!!!0", "2<3", "3=3", "3>2", "-3<-2", "!(3<3)");
        gives(0, "0|0", "3&0", "0&3", "0&0", "!1", "!7", "!-1", "!!0", "3<3", "3<2", "3=2", "3>3", "2>3", "-2<-3", "!(2<3)");
        gives(5, "(0|0)+5", "(3&0)+5", "(0&3)+5", "(3<3)+5", "(4<3)+5", "(3=4)+5", "(3>3)+5", "(3>4)+5", "!3+5", "!-3+5");
        gives(6, "(3|0)+5", "(0|3)+5", "(3&3)+5", "(2<3)+5", "(3=3)+5", "(3>2)+5", "!0+5", "(3|3)+5");
        // what comes first
        gives("2+3*4", 14);
        gives("(2+3)*4", 20);
        gives("7-2-1", 4);
        gives("20/3/2", 3);
        gives("8/2*3", 12);
        gives("2*7/3", 4);
        gives("17%10*2", 14);
        gives("9-4+2", 7);
        gives("2+3<6", 1);
        gives("6>2+3", 1);
        gives("1+(2<3)*5", 6);
        gives("2<3&0", 0);
        gives("1|1&0", 1);
        gives("0&1|1", 1);
        gives("!0+5", 6);
        gives("!(0+5)", 0);
        gives("-2+9", 7);
        gives("-2*-3", 6);
        gives("--7", 7);
        gives("s--1", 5);
        gives("-!0+3", 2);
        gives("!-!0", 0);
        gives("h+r*a+d", 12);
        gives("((((((s))))))", 4);
    }

    private static void lines() {
        gives(0, "0?5", "0?5;0?6", "1?0;5", "0;5", "1=2?9", "0?5;0;7", "0?5;1?0;7");
        gives(5, "1?5", "2?5;6", "-1?5;6", "5;9", "5;0?9", "0|2?5;6", "0?9;5", "0?9;1?5;8", "0?9;5;8");
        gives(6, "0?5;6", "0?5;0?6;6", "1-1?5;6", "s=3?5;6", "5/0?5;6");
        gives("s=4?s+1;9", 5);
        gives("0?3;".repeat(29) + "0?5", 0);
        gives("0?3;".repeat(28) + "0?5;7", 7);
        gives("0;" + "9;".repeat(58) + "9", 0);
        gives("1?0;9" + ";9".repeat(57), 0);
    }

    private static void cracks() {
        Script.sentence(9, "no such BRIDGE",
                LINE2, "cracks(-1) = BAD; cracks(2) = BAD; cracks(8) = BAD; cracks(LEAST) = BAD; cracks(MOST) = BAD; cracks(1) = 2");
        Script.sentence(9, "the last BRIDGE", LINE8, "cracks(7) = 2; cracks(8) = BAD");
        Script.sentence(9, "without a text: SPAN by 2 (cut)",
                LINE1, "mend(0, 0, 1); cracks(0) = 0; mend(0, 0, 2); cracks(0) = 1; mend(0, 0, 3); cracks(0) = 1; mend(0, 0, 8)",
                "cracks(0) = 4; mend(0, 0, 9); cracks(0) = 4");
        Script.sentence(9, "whether it STANDS or not",
                LINE1, "beggar(1, 1); sits(0, 0); mend(0, 3, 10); cracks(0) = 4; mend(0, 1, 0); cracks(0) = 4; mend(0, 1, 1)",
                "cracks(0) = 4", Script.law("20-x"), "cracks(0) = 19; mend(0, 1, 0); cracks(0) = 20");
        Script.sentence(9, "who has MEANS of so much as POOR has nothing",
                LINE1, "mend(0, 0, 9); beggar(1, 1); sits(0, 0); mend(0, 3, 9); cracks(0) = 0; mend(0, 3, 10); cracks(0) = 6",
                "mend(0, 7, 10); cracks(0) = 0; mend(0, 7, 0); cracks(0) = 6; mend(0, 3, 0); cracks(0) = 0; mend(0, 3, 1)",
                "cracks(0) = 6; mend(0, 7, 99); mend(0, 3, 99); cracks(0) = 0; mend(0, 7, 98); cracks(0) = 6");
        Script.sentence(9, "held within 0 .. 20, without a text too",
                LINE1, "mend(0, 0, 9)", Script.each(9, "beggar(1, 1); sits(#, 0)"), "cracks(0) = 0; mend(0, 7, 0)",
                Script.each(8, "mend(#, 3, 10)"), "cracks(0) = 16; sits(8, -1); cracks(0) = 20; sits(8, 0); mend(8, 3, 10)",
                "cracks(0) = 20");
        Script.sentence(9, "who sits there: nobody, elsewhere, nine",
                LINE2, Script.law("10*h+r"), "cracks(0) = 0; cracks(1) = 0", Script.each(9, "beggar(1, 1); mend(#, 3, 10)"),
                "cracks(0) = 0", Script.each(9, "sits(#, 1)"), "cracks(0) = 0; cracks(1) = 9; mend(4, 3, 9); cracks(1) = 18");
        Script.sentence(9, "today: the DAY, 0 and 6",
                LINE1, Script.law("10+d"), "cracks(0) = 10; mend(0, 8, 6); cracks(0) = 16; day(); cracks(0) = 10");
    }
}
