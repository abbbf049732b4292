/** Promises 34 to 43: each sentence that names a boundary case. */
public final class EdgesShelvesTest {
    private static final String LINE1 = Script.line(1);
    /** BODIES 0 .. 7, of the KINDS 0 .. 7. */
    private static final String KINDS = Script.each(8, "body(#)");
    private static final String[] NO_SHELF = {"-1", "6", "7", "LEAST", "MOST"};

    public static void main(String[] args) {
        body();
        act();
        actsThatWrap();
        trace();
        keep();
        row();
        put();
        sorts();
        element();
        shift();
        shiftRefused();
        taken();
        count();
        Due.end();
    }

    private static void body() {
        Script.sentence(34, "a KIND (0 .. 7)",
                "body(-1) = BAD; body(8) = BAD; body(LEAST) = BAD; body(MOST) = BAD; count(4) = 0; body(0) = 0; body(7) = 1; count(4) = 2");
        Script.sentence(34, "BODIES 0 .. 49; FULL; BAD is named ahead of it",
                Script.each(50, "body(6) = #"), "count(4) = 50; body(6) = FULL; body(0) = FULL; body(8) = BAD; body(-1) = BAD; count(4) = 50",
                "act(49, 0, 1) = 100; act(50, 0, 1) = 0; keep(0, 49) = 1; keep(0, 50) = BAD; taken(0, 6) = 6");
    }

    private static void act() {
        for (String wrong : new String[] {"-1, 0", "8, 0", "50, 0", "LEAST, 0", "MOST, 0", "0, -1", "0, 4", "0, LEAST", "0, MOST", "8, 4", "-1, -1"}) {
            Script.sentence(35, "0, and no TRACE then: no such ARCH, ACT",
                    KINDS, "act(0, 3, 10); count(5) = 4; act(" + wrong + ", 10) = 0; count(5) = 0; trace(0) = BAD; trace(3) = BAD; count(4) = 8");
        }
        Script.sentence(35, "no ARCH at all", "act(0, 0, 5) = 0; count(5) = 0; trace(0) = BAD; body(0); act(0, 0, 5) = 5; count(5) = 1; trace(0) = 1");
        Script.sentence(35, "ACTS (0 .. 3) of each KIND",
                KINDS, "act(0, 0, 10) = 10; act(0, 1, 10) = 20; act(0, 2, 10) = 10; act(0, 3, 10) = 19",
                "act(1, 0, 10) = 14; act(1, 1, 10) = 28; act(1, 2, 10) = 11; act(1, 3, 10) = 28",
                "act(2, 0, 10) = 12; act(2, 1, 10) = -24; act(2, 2, 10) = 8; act(2, 3, 10) = -27",
                "act(3, 0, 10) = 13; act(3, 1, 10) = -28; act(3, 2, 10) = 27; act(3, 3, 10) = -34",
                "act(4, 0, 10) = 17; act(4, 1, 10) = 34; act(4, 2, 10) = 5; act(4, 3, 10) = 38",
                "act(5, 0, 10) = 15; act(5, 1, 10) = -32; act(5, 2, 10) = 45; act(5, 3, 10) = -47",
                "act(6, 0, 10) = 32; act(6, 1, 10) = 64; act(6, 2, 10) = 12; act(6, 3, 10) = 57",
                "act(7, 0, 10) = 20; act(7, 1, 10) = 33; act(7, 2, 10) = 1; act(7, 3, 10) = 38");
        Script.sentence(35, "n its number: the first, the last",
                Script.times(49, "body(0)"), "body(7); act(0, 0, 0) = 0; act(0, 2, 5) = 5; act(48, 0, 0) = 48; act(48, 2, 0) = 48",
                "act(49, 0, 0) = 52; act(49, 2, 0) = -5; act(50, 0, 0) = 0");
    }

    private static void actsThatWrap() {
        Script.sentence(35, "x an int that wraps: stands",
                KINDS, "act(0, 0, MOST) = MOST; act(0, 0, LEAST) = LEAST; act(1, 0, MOST) = -2147483645; act(2, 0, MOST) = -2147483647",
                "act(6, 0, MOST) = 10; act(6, 0, LEAST) = 12; act(7, 0, MOST) = -2147483639; act(7, 0, LEAST) = -2147483638");
        Script.sentence(35, "x an int that wraps: asks",
                KINDS, "act(0, 1, MOST) = -2; act(0, 1, LEAST) = 0; act(1, 1, LEAST) = 8; act(2, 1, MOST) = -2; act(2, 1, LEAST) = -4",
                "act(3, 1, MOST) = -6; act(3, 1, LEAST) = -8; act(5, 1, MOST) = -10; act(6, 1, MOST) = 20; act(7, 1, MOST) = 11");
        Script.sentence(35, "x an int that wraps: cracks",
                KINDS, "act(0, 2, MOST) = MOST; act(1, 2, MOST) = 2147483646; act(1, 2, LEAST) = -2147483647; act(3, 2, MOST) = 2147483636",
                "act(3, 2, LEAST) = -2147483639; act(4, 2, LEAST) = 2147483643; act(5, 2, MOST) = 2147483630; act(7, 2, LEAST) = 2147483643");
        Script.sentence(35, "x an int that wraps: tells",
                KINDS, "act(0, 3, MOST) = -3; act(0, 3, LEAST) = -1; act(5, 3, MOST) = -17; act(3, 3, MOST) = -12; act(7, 3, LEAST) = 18");
    }

    private static void trace() {
        Script.sentence(36, "BAD: ahead of the first, behind the last, behind the 24 that are kept",
                KINDS, "act(7, 3, 1); count(5) = 14; trace(-1) = BAD; trace(0) = 81; trace(13) = 1; trace(14) = BAD; trace(23) = BAD; trace(24) = BAD",
                "trace(25) = BAD; trace(LEAST) = BAD; trace(MOST) = BAD");
        Script.sentence(36, "none yet", "trace(0) = BAD; body(0); trace(0) = BAD; trace(-1) = BAD");
        Script.sentence(36, "of the latest act() alone",
                KINDS, "act(5, 3, 1); count(5) = 8; trace(0) = 60; trace(7) = 11; act(2, 1, 1); count(5) = 3; trace(0) = 30; trace(1) = 10; trace(2) = 1",
                "trace(3) = BAD; act(0, 2, 1); count(5) = 1; trace(0) = 11; trace(1) = BAD; act(0, 9, 1) = 0; trace(0) = BAD");
        Script.sentence(36, "as they began: IRON tells, the longest",
                KINDS, "act(7, 3, 1); trace(0) = 81; trace(1) = 2; trace(2) = 80; trace(3) = 10; trace(4) = 20; trace(5) = 1; trace(6) = 50; trace(7) = 11",
                "trace(8) = 20; trace(9) = 1; trace(10) = 50; trace(11) = 11; trace(12) = 20; trace(13) = 1; trace(14) = BAD");
        Script.sentence(36, "as they began: BRIDE tells",
                KINDS, "act(5, 3, 1); trace(0) = 60; trace(1) = 2; trace(2) = 41; trace(3) = 30; trace(4) = 10; trace(5) = 1; trace(6) = 40; trace(7) = 11",
                "trace(8) = BAD");
        Script.sentence(36, "as they began: DEED cracks, CART asks, COIN tells, SPAN tells",
                KINDS, "act(4, 2, 1); trace(0) = 50; trace(1) = 11; trace(2) = 20; trace(3) = 1; trace(4) = BAD; act(6, 1, 1); trace(0) = 10; trace(1) = 70",
                "trace(2) = 1; trace(3) = BAD; act(3, 3, 1); trace(0) = 2; trace(1) = 41; trace(2) = 30; trace(3) = 10; trace(4) = 1; trace(5) = 40",
                "trace(6) = 11; trace(7) = BAD; act(1, 3, 1); trace(0) = 2; trace(1) = 10; trace(2) = 20; trace(3) = 1; trace(4) = 11; trace(5) = BAD");
    }

    private static void keep() {
        for (String shelf : NO_SHELF) {
            Script.sentence(37, "SHELVES 0 .. 5", "body(0); keep(" + shelf + ", 0) = BAD; keep(" + shelf + ", -1) = BAD");
        }
        Script.sentence(37, "no such ARCH",
                "keep(0, 0) = BAD; body(3); keep(0, 0) = 1; keep(0, 1) = BAD; keep(0, -2) = BAD; keep(0, 50) = BAD; keep(0, LEAST) = BAD",
                "keep(0, MOST) = BAD; taken(0, 3) = 3; row(1, 0, 2); put(1, 1, 7); keep(1, 1) = BAD; element(1, 1) = 7");
        Script.sentence(37, "nothing (body -1), also where nothing is", "keep(0, -1) = 1; keep(5, -1) = 1; taken(0, 0) = -11; body(0); keep(5, 0) = 1",
                "taken(5, 0) = 0; keep(5, -1) = 1; taken(5, 0) = -11; put(5, 0, 1) = -11");
        Script.sentence(37, "in place of a ROW; a ROW in place of an ARCH",
                "body(2); row(0, 0, 3); keep(0, 0) = 1; put(0, 0, 1) = -12; element(0, 0) = LEASTLONG; row(0, 0, 1) = 1; taken(0, 2) = -12",
                "put(0, 0, 1) = 1; keep(0, -1) = 1; put(0, 0, 1) = -11; row(0, 0, 3) = 1; element(0, 0) = 0; element(0, 2) = 0");
        Script.sentence(37, "one ARCH on all SHELVES", "body(5)", Script.each(6, "keep(#, 0) = 1"), Script.each(6, "taken(#, 5) = 5"), "count(4) = 1");
    }

    private static void row() {
        for (String shelf : NO_SHELF) {
            Script.sentence(38, "SHELVES 0 .. 5: BAD, named ahead of -14",
                    "row(" + shelf + ", 0, 1) = BAD; row(" + shelf + ", 0, -1) = BAD; row(" + shelf + ", 5, 61) = BAD");
        }
        Script.sentence(38, "sorts 0 to 4: BAD, named ahead of -14",
                "row(0, -1, 1) = BAD; row(0, 5, 1) = BAD; row(0, LEAST, 1) = BAD; row(0, MOST, 1) = BAD; row(0, -1, -1) = BAD; row(0, 5, -1) = BAD",
                "taken(0, 0) = -11; row(0, 4, 1) = 1; row(0, 0, 1) = 1");
        Script.sentence(38, "of 0 .. 60 elements: n above 60 BAD, below 0 -14",
                "row(0, 0, 61) = BAD; row(0, 0, MOST) = BAD; row(0, 0, -1) = -14; row(0, 0, LEAST) = -14; row(0, 4, 61) = BAD; row(0, 4, -1) = -14",
                "taken(0, 0) = -11; row(0, 0, 60) = 1; element(0, 59) = 0; element(0, 60) = LEASTLONG");
        Script.sentence(38, "what is refused leaves what it holds",
                Script.bytes(0, 7, 8), "row(0, 0, 61) = BAD; row(0, 0, -1) = -14; row(0, 5, 1) = BAD; element(0, 0) = 7; element(0, 1) = 8; body(1)",
                "keep(0, 0); row(0, 0, -1) = -14; row(0, 0, 61) = BAD; taken(0, 1) = 1");
        Script.sentence(38, "of no elements", "row(0, 0, 0) = 1; taken(0, 0) = -12; put(0, 0, 1) = -13; element(0, 0) = LEASTLONG; shift(0, 0, 0, 0, 0) = 0");
        for (int sort = 0; sort < 5; sort++) {
            Script.sentence(38, "0 at first, also where another ROW was",
                    "row(0, 3, 60)", Script.each(60, "put(0, #, -1)"), "row(0, " + sort + ", 60) = 1", Script.each(60, "element(0, #) = 0"),
                    "element(0, 60) = LEASTLONG; put(0, 59, 1) = 1; element(0, 59) = 1");
        }
        Script.sentence(38, "each SHELF its own",
                Script.each(6, "row(#, 0, #) = 1"), Script.each(6, "put(#, #, 1) = -13"), "put(5, 4, 9) = 1; element(4, 3) = 0; element(5, 4) = 9");
    }

    private static void put() {
        for (String shelf : NO_SHELF) {
            Script.sentence(39, "SHELVES 0 .. 5: BAD",
                    "put(" + shelf + ", 0, 1) = BAD; put(" + shelf + ", -1, 1) = BAD; element(" + shelf + ", 0) = LEASTLONG");
        }
        Script.sentence(39, "-11 ahead of -13, -12 ahead of -13",
                "put(0, 0, 1) = -11; put(0, -1, 1) = -11; put(0, 60, 1) = -11; body(0); keep(0, 0); put(0, 0, 1) = -12; put(0, -1, 1) = -12",
                "put(0, 60, 1) = -12");
        Script.sentence(39, "-13: a place that is not there",
                Script.bytes(0, 1, 2, 3), "put(0, -1, 9) = -13; put(0, 3, 9) = -13; put(0, 60, 9) = -13; put(0, LEAST, 9) = -13; put(0, MOST, 9) = -13",
                "element(0, 0) = 1; element(0, 2) = 3; put(0, 2, 9) = 1; element(0, 2) = 9");
        Script.sentence(39, "the last of 60", "row(5, 3, 60); put(5, 59, 7) = 1; put(5, 60, 7) = -13; element(5, 59) = 7; element(5, 58) = 0");
    }

    private static void sorts() {
        long[] put = {127, 128, 255, 256, -128, -129, 32767, 32768, -32768, -32769, 65535, 65536, Integer.MAX_VALUE, 1L + Integer.MAX_VALUE,
            Integer.MIN_VALUE, -1L + Integer.MIN_VALUE, 1L << 32, Long.MAX_VALUE, Long.MIN_VALUE + 1, -1, 0, 1, 2};
        for (long v : put) {
            long[] kept = {(byte) v, (short) v, (int) v, v, v != 0 ? 1 : 0};
            for (int sort = 0; sort < 5; sort++) {
                Script.sentence(39, "what is put in keeps its lowest bits, sort " + sort,
                        "row(0, " + sort + ", 3); put(0, 1, " + v + ") = 1; element(0, 1) = " + kept[sort] + "; element(0, 0) = 0; element(0, 2) = 0");
            }
        }
        Script.sentence(39, "the least long, in longs", "row(0, 3, 1); put(0, 0, LEASTLONG) = 1; element(0, 0) = LEASTLONG; row(0, 2, 1)",
                "put(0, 0, LEASTLONG) = 1; element(0, 0) = 0; row(0, 4, 1); put(0, 0, LEASTLONG) = 1; element(0, 0) = 1");
    }

    private static void element() {
        for (String shelf : NO_SHELF) {
            Script.sentence(40, "SHELVES 0 .. 5", Script.bytes(0, 5), "element(" + shelf + ", 0) = LEASTLONG");
        }
        Script.sentence(40, "nothing, an ARCH, a place that is not there",
                "element(0, 0) = LEASTLONG; body(0); keep(1, 0); element(1, 0) = LEASTLONG", Script.bytes(2, 5, 6), "element(2, -1) = LEASTLONG",
                "element(2, 2) = LEASTLONG; element(2, LEAST) = LEASTLONG; element(2, MOST) = LEASTLONG; element(2, 0) = 5; element(2, 1) = 6");
        Script.sentence(40, "behind what another ROW had", "row(0, 0, 5); put(0, 4, 9); row(0, 0, 3); element(0, 3) = LEASTLONG; element(0, 4) = LEASTLONG");
    }

    private static void shift() {
        Script.sentence(41, "none of them", Script.bytes(0, 1, 2, 3), "shift(0, 0, 0, 0, 0) = 0; shift(0, 3, 0, 3, 0) = 0; shift(0, 0, 0, 3, 0) = 0",
                "shift(0, 4, 0, 0, 0) = -13; shift(0, 0, 0, 4, 0) = -13; shift(0, -1, 0, 0, 0) = -13; shift(0, 0, 0, -1, 0) = -13");
        Script.sentence(41, "all of them, of 60", "row(0, 1, 60); row(1, 1, 60)", Script.each(60, "put(0, #, #)"), "shift(0, 0, 1, 0, 60) = 60",
                Script.each(60, "element(1, #) = #"), "shift(0, 0, 1, 0, 61) = -13");
        Script.sentence(41, "as they all were before: up and down in the same",
                Script.bytes(0, 1, 2, 3, 4, 5), "shift(0, 0, 0, 1, 4) = 4; element(0, 0) = 1; element(0, 1) = 1; element(0, 2) = 2; element(0, 3) = 3",
                "element(0, 4) = 4; shift(0, 1, 0, 0, 4) = 4; element(0, 0) = 1; element(0, 1) = 2; element(0, 2) = 3; element(0, 3) = 4; element(0, 4) = 4",
                "shift(0, 0, 0, 0, 5) = 5; element(0, 0) = 1; element(0, 4) = 4; shift(0, 4, 0, 0, 1) = 1; element(0, 0) = 4; shift(0, 3, 0, 3, 2) = 2");
        Script.sentence(41, "to a shorter one, to a longer one",
                Script.bytes(0, 1, 2, 3, 4, 5), Script.bytes(1, 6, 7), "shift(0, 3, 1, 0, 2) = 2; element(1, 0) = 4; element(1, 1) = 5; shift(0, 2, 1, 0, 3) = -13",
                "shift(1, 0, 0, 3, 2) = 2; element(0, 3) = 4; shift(1, 0, 0, 4, 2) = -13; shift(1, 1, 0, 4, 1) = 1; element(0, 4) = 5; element(0, 2) = 3");
        String[] most = {"127", "32767", "MOST", "MOSTLONG", "1"};
        String[] least = {"-128", "-32768", "LEAST", "LEASTLONG", "0"};
        for (int sort = 0; sort < 5; sort++) {
            Script.sentence(41, "of each sort", "row(0, " + sort + ", 2); row(1, " + sort + ", 3); put(0, 0, " + most[sort] + "); put(0, 1, " + least[sort] + ")",
                    "put(1, 2, 1); shift(0, 0, 1, 1, 2) = 2; element(1, 0) = 0; element(1, 1) = " + most[sort] + "; element(1, 2) = " + least[sort]);
        }
    }

    private static void shiftRefused() {
        for (String shelf : NO_SHELF) {
            Script.sentence(41, "SHELVES 0 .. 5: BAD, named ahead of -11",
                    Script.bytes(0, 1), "shift(" + shelf + ", 0, 0, 0, 1) = BAD; shift(0, 0, " + shelf + ", 0, 1) = BAD; shift(" + shelf + ", 0, 5, 0, 1) = BAD",
                    "shift(5, 0, " + shelf + ", 0, 1) = BAD; shift(" + shelf + ", 9, " + shelf + ", 9, 1) = BAD");
        }
        Script.sentence(41, "-11 (either), named ahead of -12 and -13",
                Script.bytes(0, 1), "body(0); keep(1, 0); shift(0, 0, 5, 0, 1) = -11; shift(5, 0, 0, 0, 1) = -11; shift(5, 0, 5, 0, 1) = -11",
                "shift(1, 0, 5, 0, 1) = -11; shift(5, 0, 1, 0, 1) = -11; shift(0, 9, 5, 9, 9) = -11; shift(5, -1, 0, -1, -1) = -11; shift(5, 0, 0, 0, 0) = -11");
        Script.sentence(41, "-12 (no ROWS), named ahead of -13",
                Script.bytes(0, 1), "body(0); keep(1, 0); keep(2, 0); shift(0, 0, 1, 0, 1) = -12; shift(1, 0, 0, 0, 1) = -12; shift(1, 0, 2, 0, 1) = -12",
                "shift(1, 0, 1, 0, 0) = -12; shift(0, 9, 1, 9, 9) = -12; shift(1, -1, 0, 0, -1) = -12");
        for (int one = 0; one < 5; one++) {
            for (int other = 0; other < 5; other++) {
                if (one != other) {
                    Script.sentence(41, "-12 (of unlike sorts), named ahead of -13",
                            "row(0, " + one + ", 2); row(1, " + other + ", 2); shift(0, 0, 1, 0, 1) = -12; shift(0, 0, 1, 0, 0) = -12; shift(0, 2, 1, 2, 1) = -12",
                            "shift(0, 0, 1, 0, -1) = -12; row(0, " + one + ", 0); shift(0, 0, 1, 0, 0) = -12");
                }
            }
        }
        Script.sentence(41, "-13: a place that is not there",
                Script.bytes(0, 1, 2, 3), Script.bytes(1, 4, 5, 6), "shift(0, -1, 1, 0, 1) = -13; shift(0, 0, 1, -1, 1) = -13; shift(0, 3, 1, 0, 1) = -13",
                "shift(0, 0, 1, 3, 1) = -13; shift(0, 0, 1, 0, 4) = -13; shift(0, 1, 1, 0, 3) = -13; shift(0, 0, 1, 1, 3) = -13; shift(0, 0, 1, 0, -1) = -13",
                "shift(0, LEAST, 1, 0, 1) = -13; shift(0, MOST, 1, 0, 1) = -13; shift(0, 0, 1, LEAST, 1) = -13; shift(0, 0, 1, MOST, 1) = -13",
                "shift(0, 0, 1, 0, LEAST) = -13; shift(0, 0, 1, 0, MOST) = -13; shift(0, MOST, 1, MOST, MOST) = -13; shift(0, 1, 1, 1, MOST) = -13",
                "shift(0, 3, 1, 3, LEAST) = -13; shift(0, -1, 1, -1, LEAST) = -13; element(1, 0) = 4; element(1, 2) = 6");
        Script.sentence(41, "-13 in the same ROW: nothing moves", Script.bytes(0, 1, 2, 3), "shift(0, 0, 0, 1, 3) = -13; shift(0, 1, 0, 0, 3) = -13",
                "element(0, 0) = 1; element(0, 1) = 2; element(0, 2) = 3");
    }

    private static void taken() {
        for (String shelf : NO_SHELF) {
            Script.sentence(42, "SHELVES 0 .. 5: BAD", "taken(" + shelf + ", 0) = BAD; taken(" + shelf + ", 8) = BAD");
        }
        Script.sentence(42, "KIND k (0 .. 7): BAD, named ahead of -11 and -12",
                "taken(0, -1) = BAD; taken(0, 8) = BAD; taken(0, LEAST) = BAD; taken(0, MOST) = BAD", Script.bytes(0, 1), "taken(0, -1) = BAD",
                "taken(0, 8) = BAD; body(0); keep(0, 0); taken(0, -1) = BAD; taken(0, 8) = BAD; taken(0, 0) = 0; taken(0, 7) = -12");
        Script.sentence(42, "nothing: -11", Script.each(6, "taken(#, 0) = -11; taken(#, 7) = -11"));
        Script.sentence(42, "a ROW: -12", Script.each(5, "row(#, #, 1)"), "row(5, 0, 0)", Script.each(6, "taken(#, 0) = -12; taken(#, 7) = -12"));
        int[] above = {-1, 0, 0, 2, 1, 3, 0, 4};
        for (int kind = 0; kind < 8; kind++) {
            StringBuilder rows = new StringBuilder();
            for (int k = 0; k < 8; k++) {
                boolean under = false;
                for (int at = kind; at >= 0; at = above[at]) {
                    under |= at == k;
                }
                rows.append("taken(0, ").append(k).append(") = ").append(under ? kind : -12).append(";");
            }
            Script.sentence(42, "a ARCH of KIND k, or under it: its KIND", "body(7); body(" + kind + "); keep(0, 1)", rows.toString());
        }
        Script.sentence(42, "it is another ARCH now", "body(1); body(2); keep(0, 0); taken(0, 1) = 1; keep(0, 1); taken(0, 1) = -12; taken(0, 2) = 2");
    }

    private static void count() {
        Script.sentence(43, "what 0 to 5: BAD", "count(-1) = BAD; count(6) = BAD; count(LEAST) = BAD; count(MOST) = BAD; count(0) = 0; count(5) = 0");
        Script.sentence(43, "each at its most",
                LINE1, Script.times(7, "bridge(1, 1)"), Script.times(9, "beggar(1, 1)"), Script.times(120, "feed(115)"), Script.each(45, "mend(0, 1, #)"),
                Script.times(50, "body(7)"), "act(49, 3, 1); count(0) = 8; count(1) = 9; count(2) = 120; count(3) = 40; count(4) = 50; count(5) = 14");
        Script.sentence(43, "what is refused is not counted",
                "bridge(0, 1) = BAD; beggar(10, 1) = BAD; feed(256) = BAD; mend(0, 7, 100) = VOID; body(8) = BAD", Script.each(6, "count(#) = 0"));
        Script.sentence(43, "undone: one less; no TRACE: none",
                "mend(0, 7, 1); mend(0, 7, 2); count(3) = 2; undo(); count(3) = 1; redo(); count(3) = 2; body(0); act(0, 3, 1); count(5) = 4; act(1, 3, 1)",
                "count(5) = 0");
    }
}
