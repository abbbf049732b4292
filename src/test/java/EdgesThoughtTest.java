/** Promises 10 to 18: each sentence that names a boundary case. */
public final class EdgesThoughtTest {
    private static final String LINE1 = Script.line(1), LINE2 = Script.line(2), LINE3 = Script.line(3);
    private static final String LINE8 = Script.line(7) + "bridge(70, 4);";
    /** Nothing cracks. */
    private static final String FIRM = Script.law("0");

    public static void main(String[] args) {
        laterIsBad();
        laterSound();
        laterMeans();
        aDay();
        county();
        falls();
        rich();
        without();
        moved();
        movedTo();
        lasting();
        way();
        parted();
        needed();
        Due.end();
    }

    private static void laterIsBad() {
        Script.sentence(10, "n (0 .. 60)",
                LINE1, "beggar(1, 1); later(-1, 0, 0) = BAD; later(61, 0, 0) = BAD; later(-1, 0, 1) = BAD; later(61, 0, 1) = BAD",
                "later(LEAST, 0, 0) = BAD; later(MOST, 0, 0) = BAD; later(0, 0, 0) = 99; later(60, 0, 0) = 0; later(0, 0, 1) = 0",
                "later(60, 0, 1) = 0");
        Script.sentence(10, "SOUND (what 0), MEANS (1)",
                LINE1, "beggar(1, 1); later(0, 0, -1) = BAD; later(0, 0, 2) = BAD; later(0, 0, LEAST) = BAD; later(0, 0, MOST) = BAD");
        Script.sentence(10, "no such BRIDGE, no such BEGGAR",
                LINE2, "beggar(1, 1); beggar(1, 1); beggar(1, 1); later(0, -1, 0) = BAD; later(0, 2, 0) = BAD; later(0, -1, 1) = BAD",
                "later(0, 3, 1) = BAD; later(0, 2, 1) = 0; later(0, LEAST, 0) = BAD; later(0, MOST, 0) = BAD",
                "later(0, LEAST, 1) = BAD; later(0, MOST, 1) = BAD; bridge(23, 4); bridge(34, 4); later(0, 3, 0) = 99",
                "later(0, 3, 1) = BAD");
        Script.sentence(10, "the last BRIDGE, the last BEGGAR",
                LINE8, Script.times(9, "beggar(1, 1)"), "mend(8, 3, 9); later(49, 7, 0) = 1; later(50, 7, 0) = 0; later(8, 8, 1) = 1",
                "later(9, 8, 1) = 0; later(0, 8, 0) = BAD; later(0, 9, 1) = BAD");
    }

    private static void laterSound() {
        Script.sentence(10, "SOUND is 0 at least",
                LINE1, "mend(0, 1, 3); later(1, 0, 0) = 1; later(2, 0, 0) = 0; later(3, 0, 0) = 0; mend(0, 1, 2); later(1, 0, 0) = 0",
                "mend(0, 1, 1); later(1, 0, 0) = 0; mend(0, 1, 0); later(0, 0, 0) = 0; later(1, 0, 0) = 0; later(60, 0, 0) = 0");
        Script.sentence(10, "60 days of 1, of 2",
                LINE1, Script.law("1"), "later(60, 0, 0) = 39; mend(0, 1, 60); later(59, 0, 0) = 1; later(60, 0, 0) = 0; mend(0, 1, 61)",
                "later(60, 0, 0) = 1");
        Script.sentence(10, "the most that cracks in a day, 20",
                LINE1, Script.law("99"), "later(1, 0, 0) = 79; later(4, 0, 0) = 19; later(5, 0, 0) = 0");
        Script.sentence(10, "less than nothing cracks: it is as it was", LINE1, Script.law("-9"), "later(60, 0, 0) = 99");
        Script.sentence(10, "SOUND as it stands when the day begins",
                LINE1, Script.law("x/50"), "later(49, 0, 0) = 50; later(50, 0, 0) = 49; later(60, 0, 0) = 49");
        Script.sentence(10, "who has nothing, as it stands when the day begins",
                LINE1, "beggar(1, 0); sits(0, 0); mend(0, 3, 9)", Script.law("r*9"),
                "later(1, 0, 1) = 10; later(1, 0, 0) = 99; later(2, 0, 0) = 90; mend(0, 3, 10); mend(0, 4, 0); mend(0, 5, 1)",
                "later(1, 0, 1) = 9; later(1, 0, 0) = 90; later(2, 0, 0) = 90");
    }

    private static void laterMeans() {
        Script.sentence(10, "ALMS, or ASKS, if that is less",
                LINE1, "beggar(3, 0); sits(0, 0); mend(0, 2, 4); later(1, 0, 1) = 3; mend(0, 2, 3); later(1, 0, 1) = 3; mend(0, 2, 2)",
                "later(1, 0, 1) = 2; mend(0, 2, 0); later(1, 0, 1) = 0; mend(0, 2, 9); mend(0, 4, 9); later(1, 0, 1) = 9",
                "mend(0, 4, 0); later(1, 0, 1) = 0");
        Script.sentence(10, "MEANS within 0 .. 99 at once: the most",
                LINE1, FIRM, "mend(0, 2, 9); beggar(9, 9); sits(0, 0); mend(0, 3, 99); later(1, 0, 1) = 99; later(60, 0, 1) = 99",
                "mend(0, 5, 8); later(1, 0, 1) = 99; mend(0, 3, 98); later(1, 0, 1) = 99; later(2, 0, 1) = 99; mend(0, 3, 97)",
                "later(1, 0, 1) = 98; mend(0, 5, 0); mend(0, 3, 90); later(1, 0, 1) = 99; mend(0, 3, 91); later(1, 0, 1) = 99");
        Script.sentence(10, "MEANS within 0 .. 99 at once: the least",
                LINE1, FIRM, "mend(0, 2, 9); beggar(9, 9); sits(0, 0); later(1, 0, 1) = 0; later(60, 0, 1) = 0; mend(0, 4, 8)",
                "later(1, 0, 1) = 0; mend(0, 3, 1); later(1, 0, 1) = 0; mend(0, 3, 2); later(1, 0, 1) = 1; mend(0, 4, 3)",
                "mend(0, 3, 5); later(1, 0, 1) = 0; mend(0, 3, 6); later(1, 0, 1) = 0; mend(0, 3, 7); later(1, 0, 1) = 1");
        Script.sentence(10, "who SITS nowhere only spends",
                LINE1, "beggar(9, 4); mend(0, 3, 9); later(0, 0, 1) = 9; later(1, 0, 1) = 5; later(2, 0, 1) = 1; later(3, 0, 1) = 0");
        Script.sentence(10, "on one that STANDS (SOUND above 0)",
                LINE1, "beggar(3, 0); sits(0, 0); mend(0, 1, 0); later(1, 0, 1) = 0; mend(0, 1, 1); later(1, 0, 1) = 3",
                "later(2, 0, 1) = 6");
        Script.sentence(10, "on the day on which it falls he still has ALMS",
                LINE1, Script.law("2"), "beggar(3, 1); sits(0, 0); mend(0, 1, 2); later(1, 0, 0) = 0; later(1, 0, 1) = 2",
                "later(2, 0, 1) = 1; later(3, 0, 1) = 0; mend(0, 1, 4); later(1, 0, 0) = 2; later(2, 0, 1) = 4; later(3, 0, 1) = 3");
    }

    private static void aDay() {
        Script.sentence(10, "DAY is one more, behind 6: 0",
                LINE1, Script.law("d"), "mend(0, 8, 6); later(1, 0, 0) = 93; later(2, 0, 0) = 93; later(3, 0, 0) = 92",
                "later(8, 0, 0) = 72; later(9, 0, 0) = 72; later(10, 0, 0) = 71; mend(0, 8, 5); later(1, 0, 0) = 94; later(2, 0, 0) = 88",
                "later(3, 0, 0) = 88; mend(0, 8, 0); later(1, 0, 0) = 99; later(7, 0, 0) = 78; later(8, 0, 0) = 78; later(9, 0, 0) = 77");
        Script.sentence(25, "all as they stand when it begins, in deed",
                LINE1, "beggar(1, 0); sits(0, 0); mend(0, 3, 9)", Script.law("r*9"), "day() = 1; of(0, 1) = 99; of(0, 3) = 10; day() = 1",
                "of(0, 1) = 90");
    }

    private static void county() {
        Script.sentence(11, "n (0 .. 60), what 0 to 2",
                LINE1, "county(-1, 0) = BAD; county(61, 0) = BAD; county(LEAST, 0) = BAD; county(MOST, 0) = BAD; county(61, 1) = BAD",
                "county(61, 2) = BAD; county(-1, 1) = BAD; county(-1, 2) = BAD; county(0, -1) = BAD; county(0, 3) = BAD",
                "county(0, LEAST) = BAD; county(0, MOST) = BAD; county(60, 3) = BAD; county(0, 0) = 1; county(60, 0) = 0; county(60, 2) = 0");
        Script.sentence(11, "all BRIDGES, all BEGGARS",
                LINE8, Script.times(9, "beggar(1, 1)"), "county(0, 0) = 255; county(0, 1) = 792; county(0, 2) = 511; county(49, 0) = 255",
                "county(49, 1) = 8; county(50, 0) = 0; county(50, 1) = 0; county(60, 1) = 0; county(60, 2) = 511");
        Script.sentence(11, "which STAND: SOUND above 0",
                LINE8, FIRM, "mend(0, 1, 0); mend(1, 1, 1); mend(7, 1, 0); county(0, 0) = 126; county(60, 0) = 126; county(60, 1) = 496");
        Script.sentence(11, "who has nothing: MEANS of so much as POOR, or less",
                "beggar(0, 1); beggar(0, 1); beggar(0, 1); mend(0, 3, 9); mend(1, 3, 10); mend(2, 3, 11)",
                "county(0, 2) = 1; county(1, 2) = 3; county(2, 2) = 7; mend(0, 7, 0); county(0, 2) = 0; county(8, 2) = 0",
                "county(9, 2) = 1; county(10, 2) = 3; county(11, 2) = 7; mend(0, 7, 99); mend(0, 3, 99); county(0, 2) = 7");
    }

    private static void falls() {
        Script.sentence(12, "no such BRIDGE",
                LINE2, "falls(2) = BAD; falls(-2) = BAD; falls(8) = BAD; falls(LEAST) = BAD; falls(MOST) = BAD; falls(1) = 50");
        Script.sentence(12, "the last BRIDGE", LINE8, "falls(7) = 50; falls(8) = BAD; mend(7, 1, 98); falls(7) = 49; falls(-1) = 7");
        Script.sentence(12, "behind 0 days: it does not STAND now",
                LINE1, "mend(0, 1, 0); falls(0) = 0; falls(-1) = 0; mend(0, 1, 1); falls(0) = 1; mend(0, 1, 2); falls(0) = 1; mend(0, 1, 3)",
                "falls(0) = 2");
        Script.sentence(12, "behind 60 days, behind more: NOT",
                LINE1, Script.law("1"), "mend(0, 1, 60); falls(0) = 60; falls(-1) = 0; mend(0, 1, 61); falls(0) = NOT; falls(-1) = NOT",
                "mend(0, 1, 59); falls(0) = 59; falls(-1) = 0");
        Script.sentence(12, "never: NOT", LINE2, FIRM, "falls(0) = NOT; falls(1) = NOT; falls(-1) = NOT");
        Script.sentence(12, "of like ones the least",
                LINE3, "falls(-1) = 0; mend(0, 1, 60); mend(1, 1, 20); mend(2, 1, 20); falls(-1) = 1; mend(2, 1, 18); falls(-1) = 2",
                "mend(0, 1, 17); falls(-1) = 0; mend(1, 1, 0); mend(2, 1, 0); falls(-1) = 1");
        Script.sentence(12, "one that fell, one that falls behind 60 days",
                LINE2, Script.law("s=4"), "mend(0, 1, 60); mend(1, 1, 61); falls(-1) = 0; mend(1, 1, 0); falls(-1) = 1; mend(0, 1, 0)",
                "falls(-1) = 0; mend(0, 1, 99); mend(0, 0, 5); falls(0) = NOT; falls(-1) = 1");
    }

    private static void rich() {
        Script.sentence(13, "no such BEGGAR",
                LINE3, "beggar(1, 1); beggar(1, 1); rich(-1) = BAD; rich(2) = BAD; rich(9) = BAD; rich(LEAST) = BAD; rich(MOST) = BAD",
                "rich(1) = NOT");
        Script.sentence(13, "the last BEGGAR",
                LINE1, Script.times(8, "beggar(0, 0)"), "beggar(3, 0); sits(8, 0); rich(8) = 4; rich(9) = BAD; rich(7) = NOT");
        Script.sentence(13, "more than nothing: MEANS above POOR",
                "beggar(0, 0); mend(0, 3, 9); rich(0) = NOT; mend(0, 3, 10); rich(0) = 0; mend(0, 7, 10); rich(0) = NOT; mend(0, 7, 0)",
                "mend(0, 3, 0); rich(0) = NOT; mend(0, 3, 1); rich(0) = 0; mend(0, 7, 99); mend(0, 3, 99); rich(0) = NOT");
        Script.sentence(13, "behind 60 days, behind more: NOT",
                LINE1, FIRM, "beggar(1, 0); sits(0, 0); mend(0, 7, 59); rich(0) = 60; mend(0, 7, 60); rich(0) = NOT; mend(0, 7, 58)",
                "rich(0) = 59; mend(0, 7, 0); rich(0) = 1; mend(0, 7, 99); rich(0) = NOT; mend(0, 3, 99); rich(0) = NOT");
        Script.sentence(13, "he had more at first, for the first day alone",
                "beggar(0, 9); mend(0, 3, 10); rich(0) = 0; later(1, 0, 1) = 1");
        Script.sentence(13, "the BRIDGE falls ahead of that",
                LINE1, Script.law("1"), "beggar(1, 0); sits(0, 0); mend(0, 1, 9); rich(0) = NOT; mend(0, 1, 10); rich(0) = 10");
    }

    private static void without() {
        Script.sentence(14, "no such BRIDGE",
                LINE2, "without(-1) = BAD; without(2) = BAD; without(LEAST) = BAD; without(MOST) = BAD; without(1) = 50");
        Script.sentence(14, "the last BRIDGE", LINE8, "beggar(1, 4); sits(0, 7); falls(7) = NOT; without(7) = 50; without(8) = BAD");
        Script.sentence(14, "behind 0 days, behind 60, behind more: NOT",
                LINE1, Script.law("1-h"), "beggar(1, 4); sits(0, 0); falls(0) = NOT; mend(0, 1, 60); without(0) = 60; mend(0, 1, 61)",
                "without(0) = NOT; mend(0, 1, 1); without(0) = 1; mend(0, 1, 0); without(0) = 0; of(0, 6) = 0");
        Script.sentence(14, "nobody: all nine go",
                LINE1, Script.law("h+r=0"), Script.each(9, "beggar(1, 1); sits(#, 0)"), "falls(0) = NOT; mend(0, 1, 50); without(0) = 50",
                Script.each(9, "of(#, 6) = 0"), "falls(0) = NOT");
        Script.sentence(14, "nobody sat there: as FALLS", LINE2, "beggar(1, 1); sits(0, 1); without(0) = 50; falls(0) = 50");
        Script.sentence(14, "one with more sat there: it stands longer without him",
                LINE1, "beggar(0, 0); sits(0, 0); mend(0, 3, 99); falls(0) = 25; without(0) = 50");
    }

    private static void moved() {
        Script.sentence(15, "n (0 .. 20), what 0 to 2",
                LINE1, "moved(-1, 0) = BAD; moved(21, 0) = BAD; moved(21, 1) = BAD; moved(21, 2) = BAD; moved(LEAST, 0) = BAD",
                "moved(MOST, 0) = BAD; moved(0, -1) = BAD; moved(0, 3) = BAD; moved(0, LEAST) = BAD; moved(0, MOST) = BAD",
                "moved(0, 0) = 1; moved(0, 1) = 99; moved(0, 2) = 900; moved(20, 0) = 1; moved(20, 1) = 59; moved(20, 2) = 900");
        Script.sentence(15, "without BRIDGES",
                "beggar(1, 1); moved(0, 0) = 0; moved(20, 0) = 0; moved(20, 1) = 0; moved(0, 2) = 900; moved(20, 2) = 900");
        Script.sentence(15, "without BEGGARS", LINE2, "mend(0, 1, 40); moved(20, 0) = 1; moved(20, 1) = 59; moved(20, 2) = 900");
        Script.sentence(15, "all BRIDGES fell",
                LINE2, "beggar(1, 4); mend(0, 1, 0); mend(1, 1, 0); moved(20, 0) = 0; moved(20, 1) = 0; moved(20, 2) = 900");
        Script.sentence(15, "behind no days all are alike: none first",
                LINE2, "beggar(1, 1); beggar(1, 1); sits(1, 1); moved(0, 0) = 2; moved(0, 1) = 198; moved(0, 2) = 900");
        Script.sentence(15, "of like ones none first",
                LINE2, Script.law("1-h"), "beggar(0, 0); sits(0, 0); moved(5, 0) = 2; moved(5, 1) = 193; moved(5, 2) = 900; sits(0, 1)",
                "moved(5, 2) = 900; moved(5, 1) = 193; sits(0, -1); moved(5, 2) = 0");
        Script.sentence(15, "of like ones then the least: BEGGAR, BRIDGE",
                LINE3, Script.law("1-h"), "mend(0, 1, 0); beggar(0, 0); beggar(0, 0); beggar(0, 0); mend(0, 3, 50)",
                "moved(5, 0) = 2; moved(5, 1) = 193; moved(5, 2) = 101; mend(1, 3, 50); moved(5, 2) = 201; mend(2, 3, 50)",
                "moved(5, 1) = 188; moved(5, 2) = 900");
    }

    private static void movedTo() {
        Script.sentence(15, "most BRIDGES first, then SOUND of all",
                "bridge(1, 1); bridge(12, 9)", Script.law("(h=0)*s"), "mend(0, 1, 3); beggar(0, 0); sits(0, 1)",
                "moved(3, 0) = 2; moved(3, 1) = 75; moved(3, 2) = 0; moved(2, 0) = 2; moved(2, 1) = 100; moved(2, 2) = 900",
                "moved(4, 0) = 2; moved(4, 1) = 66; moved(4, 2) = 0");
        Script.sentence(15, "8 nowhere",
                LINE1, Script.law("r"), "beggar(0, 0); mend(0, 3, 10); sits(0, 0); moved(4, 0) = 1; moved(4, 1) = 99; moved(4, 2) = 8",
                "moved(0, 2) = 900; mend(0, 3, 9); moved(4, 2) = 900");
        Script.sentence(15, "a BRIDGE is less than nowhere",
                LINE2, Script.law("r*(s<5)"), "beggar(0, 0); mend(0, 3, 10); sits(0, 0); moved(4, 2) = 8; mend(1, 0, 5); moved(4, 2) = 1",
                "mend(1, 0, 4); mend(0, 0, 5); moved(4, 2) = 900; sits(0, 1); moved(4, 2) = 0");
        Script.sentence(15, "the last BEGGAR, nowhere: 808",
                LINE1, Script.law("r"), Script.each(9, "beggar(0, 0); sits(#, 0)"), "mend(8, 3, 99)",
                "moved(20, 0) = 1; moved(20, 1) = 99; moved(20, 2) = 808; mend(3, 3, 99); moved(20, 1) = 79; moved(20, 2) = 308");
        Script.sentence(15, "the last BEGGAR, the last BRIDGE: 807",
                LINE8, Script.law("x<50&h=0"), Script.times(9, "beggar(0, 0)"), Script.each(8, "mend(#, 3, 99)"), "mend(7, 1, 20)",
                "moved(20, 0) = 8; moved(20, 1) = 713; moved(20, 2) = 807; moved(19, 0) = 8; moved(19, 1) = 713; moved(19, 2) = 807",
                "moved(0, 2) = 900; moved(0, 1) = 713; mend(8, 3, 99); moved(20, 0) = 7; moved(20, 1) = 693; moved(20, 2) = 900");
        Script.sentence(15, "one BEGGAR alone is moved",
                LINE2, Script.law("1-h"), "beggar(0, 0); beggar(0, 0); moved(20, 0) = 2; moved(20, 1) = 178; moved(20, 2) = 0",
                "of(0, 6) = -1; of(1, 6) = -1");
        Script.sentence(15, "the most SOUND of all", LINE8, FIRM, "moved(20, 0) = 8; moved(20, 1) = 792");
    }

    private static void lasting() {
        Script.sentence(16, "no such BRIDGE",
                LINE2, "beggar(0, 0); lasting(-2) = BAD; lasting(2) = BAD; lasting(8) = BAD; lasting(LEAST) = BAD; lasting(MOST) = BAD",
                "lasting(-1) = 1; lasting(1) = 9");
        Script.sentence(16, "without BRIDGES, without BEGGARS",
                "beggar(0, 0); lasting(-1) = 0; lasting(0) = BAD");
        Script.sentence(16, "nobody, 9", LINE2, "lasting(-1) = 0; lasting(0) = 9; lasting(1) = 9; beggar(9, 0); lasting(-1) = 0; lasting(0) = 9");
        Script.sentence(16, "ASKS or ALMS, whichever is less, is SPENDS or less",
                LINE1, "beggar(3, 3); lasting(-1) = 1; lasting(0) = 0; mend(0, 5, 2); lasting(-1) = 0; lasting(0) = 9; mend(0, 4, 2)",
                "lasting(-1) = 1; mend(0, 4, 9); lasting(-1) = 0; mend(0, 2, 2); lasting(-1) = 1; mend(0, 2, 9); mend(0, 5, 9)",
                "lasting(-1) = 1; mend(0, 5, 8); lasting(-1) = 0; mend(0, 4, 0); mend(0, 5, 0); lasting(-1) = 1; mend(0, 4, 9)",
                "lasting(-1) = 0; mend(0, 2, 0); lasting(-1) = 1");
        Script.sentence(16, "a BEGGAR who has nothing: MEANS of so much as POOR",
                LINE1, "beggar(0, 0); mend(0, 3, 9); lasting(-1) = 1; lasting(0) = 0; mend(0, 3, 10); lasting(-1) = 0; lasting(0) = 9",
                "mend(0, 7, 10); lasting(-1) = 1; mend(0, 7, 0); lasting(-1) = 0; mend(0, 3, 0); lasting(-1) = 1");
        Script.sentence(16, "none on two",
                LINE2, "beggar(0, 0); lasting(-1) = 1; lasting(0) = 0; lasting(1) = 9; beggar(0, 0); lasting(-1) = 2; lasting(1) = 1",
                "beggar(0, 0); lasting(-1) = 2; lasting(0) = 0; lasting(1) = 1");
        Script.sentence(16, "the most, then of like ones the first by BRIDGES",
                LINE2, "mend(0, 2, 1); beggar(9, 9); beggar(9, 1); lasting(-1) = 2; lasting(0) = 1; lasting(1) = 0; mend(1, 2, 1)",
                "lasting(0) = 0; lasting(1) = 1; mend(0, 2, 9); lasting(0) = 0; lasting(1) = 1; mend(1, 2, 9); lasting(-1) = 1",
                "lasting(0) = 0; lasting(1) = 9");
        Script.sentence(16, "nobody last",
                LINE3, "mend(0, 2, 9); mend(1, 2, 1); mend(2, 2, 1); beggar(9, 2); lasting(-1) = 1; lasting(0) = 9; lasting(1) = 0",
                "lasting(2) = 9; beggar(9, 9); lasting(-1) = 2; lasting(0) = 1; lasting(1) = 0; lasting(2) = 9");
        Script.sentence(16, "all change theirs for the last BRIDGE",
                LINE8, Script.each(8, "mend(#, 2, #)"), Script.each(8, "beggar(9, #)"), "lasting(-1) = 8",
                Script.each(8, "lasting(#) = #"), "mend(0, 3, 10); lasting(-1) = 7",
                "lasting(0) = 1; lasting(1) = 2; lasting(6) = 7; lasting(7) = 9", Script.each(8, "mend(#, 2, 9)"),
                "mend(7, 5, 9); lasting(-1) = 1; lasting(0) = 7; lasting(1) = 9");
        Script.sentence(16, "each has one place alone, the last the first",
                LINE8, "mend(0, 2, 7); mend(1, 2, 6); mend(2, 2, 5); mend(3, 2, 4); mend(4, 2, 3); mend(5, 2, 2); mend(6, 2, 1); mend(7, 2, 0)",
                Script.each(8, "beggar(9, #)"), "lasting(-1) = 8; lasting(0) = 7; lasting(1) = 6; lasting(6) = 1; lasting(7) = 0");
        Script.sentence(16, "eight BRIDGES, nine BEGGARS",
                LINE8, Script.times(9, "beggar(0, 0)"), "lasting(-1) = 8", Script.each(8, "lasting(#) = #"), Script.each(8, "mend(#, 3, 10)"),
                "lasting(-1) = 1; lasting(0) = 8; lasting(1) = 9; lasting(7) = 9");
        Script.sentence(16, "from wherever they sit now; whether it STANDS or not",
                LINE2, "beggar(0, 0); sits(0, 1); lasting(0) = 0; lasting(1) = 9; mend(0, 1, 0); lasting(0) = 0; lasting(-1) = 1");
    }

    private static void way() {
        Script.sentence(17, "ft: unlike PLACES 0 .. 7: BAD",
                LINE8, Script.each(4, "way(0, #) = BAD; way(11, #) = BAD; way(77, #) = BAD; way(8, #) = BAD; way(18, #) = BAD"),
                Script.each(4, "way(80, #) = BAD; way(-1, #) = BAD; way(-10, #) = BAD; way(-12, #) = BAD; way(100, #) = BAD"),
                Script.each(4, "way(101, #) = BAD; way(79, #) = BAD; way(LEAST, #) = BAD; way(MOST, #) = BAD"));
        Script.sentence(17, "what 0 to 3: BAD",
                LINE1, "way(1, -1) = BAD; way(1, 4) = BAD; way(1, LEAST) = BAD; way(1, MOST) = BAD; way(1, 0) = 4; way(1, 3) = 1");
        Script.sentence(17, "there is no WAY: NOT",
                LINE2, "way(3, 0) = NOT; way(3, 1) = NOT; way(30, 0) = NOT; way(67, 0) = NOT; way(67, 1) = NOT; way(2, 0) = 8");
        Script.sentence(17, "by BRIDGES that STAND now (SOUND above 0)",
                LINE2, "mend(0, 1, 1); way(2, 0) = 8; way(2, 1) = 2; mend(0, 1, 0); way(2, 0) = NOT; way(2, 1) = NOT; way(12, 0) = 4");
        Script.sentence(17, "through all eight PLACES",
                Script.line(7), "way(7, 0) = 28; way(7, 1) = 7; way(70, 0) = 28; way(70, 1) = 7; way(7, 2) = 1; way(7, 3) = 1",
                Script.each(7, "mend(#, 0, 9)"), "way(7, 0) = 63; bridge(70, 9); way(7, 0) = 9; way(7, 1) = 1; mend(7, 1, 0)",
                "way(70, 0) = 63");
        Script.sentence(17, "bridges in the order that is worst",
                "bridge(67, 1); bridge(56, 1); bridge(45, 1); bridge(34, 1); bridge(23, 1); bridge(12, 1); bridge(1, 1)",
                "way(7, 0) = 7; way(70, 1) = 7; way(7, 3) = 1");
        Script.sentence(17, "the least SPAN, of like ones the fewest BRIDGES",
                "bridge(1, 2); bridge(12, 3); bridge(2, 5); way(2, 0) = 5; way(2, 1) = 1; mend(2, 0, 6); way(2, 0) = 5; way(2, 1) = 2",
                "mend(2, 0, 4); way(2, 0) = 4; way(20, 1) = 1; mend(2, 1, 0); way(2, 0) = 5; way(2, 1) = 2");
        Script.sentence(17, "side by side: the least of them",
                Script.each(8, "bridge(34, 9)"), "way(34, 0) = 9; way(43, 1) = 1; mend(7, 0, 1); way(34, 0) = 1; way(43, 0) = 1; mend(7, 1, 0)",
                "way(34, 0) = 9");
        Script.sentence(17, "many short ones are less than few long ones",
                "bridge(1, 1); bridge(12, 1); bridge(23, 1); bridge(34, 1); bridge(4, 5); way(4, 0) = 4; way(4, 1) = 4; mend(4, 0, 4)",
                "way(4, 0) = 4; way(4, 1) = 1");
    }

    private static void parted() {
        Script.sentence(17, "PARTED already: none",
                LINE2, "way(3, 2) = 0; way(3, 3) = 0; way(67, 2) = 0; way(67, 3) = 0; mend(0, 1, 0); way(2, 2) = 0; way(2, 3) = 0");
        Script.sentence(17, "one that does not STAND parts nothing",
                "bridge(1, 1); bridge(1, 1); way(1, 2) = 2; way(1, 3) = 3; mend(0, 1, 0); way(1, 2) = 1; way(1, 3) = 2; mend(0, 1, 1)",
                "way(1, 2) = 2; way(1, 3) = 3; mend(1, 1, 0); way(1, 3) = 1");
        Script.sentence(17, "the most, 8 side by side",
                Script.times(8, "bridge(70, 1)"), "way(7, 2) = 8; way(7, 3) = 255; way(70, 3) = 255; mend(7, 1, 0); way(7, 2) = 7",
                "way(7, 3) = 127");
        Script.sentence(17, "of like ones the least",
                LINE3, "way(3, 3) = 1; way(30, 3) = 1; way(13, 3) = 2; way(23, 3) = 4; bridge(3, 1); way(3, 2) = 2; way(3, 3) = 9",
                "way(12, 3) = 3; bridge(1, 1); way(3, 3) = 10; way(3, 2) = 2; way(1, 2) = 3; way(1, 3) = 19");
        Script.sentence(17, "fewer ahead of less",
                "bridge(1, 1); bridge(1, 1); bridge(12, 1); way(2, 2) = 1; way(2, 3) = 4; bridge(23, 1); way(3, 3) = 4; way(1, 3) = 3");
    }

    private static void needed() {
        Script.sentence(18, "none, one, all", "needed() = 0; bridge(1, 1); needed() = 1", "bridge(12, 1); needed() = 3; bridge(23, 1)",
                "bridge(34, 1); bridge(45, 1); bridge(56, 1); bridge(67, 1); needed() = 127; bridge(70, 1); needed() = 0");
        Script.sentence(18, "two side by side: neither",
                "bridge(1, 1); bridge(10, 1); needed() = 0; mend(0, 1, 0); needed() = 2; mend(0, 1, 1); needed() = 0; mend(1, 1, 0)",
                "needed() = 1; mend(0, 1, 0); needed() = 0");
        Script.sentence(18, "the last alone",
                "bridge(1, 1); bridge(1, 1); bridge(23, 1); bridge(23, 1); bridge(45, 1); bridge(45, 1); bridge(45, 1); bridge(67, 1)",
                "needed() = 128; mend(7, 1, 0); needed() = 0; mend(0, 1, 0); needed() = 2");
        Script.sentence(18, "a round, and one that leads from it",
                "bridge(1, 1); bridge(12, 1); bridge(20, 1); needed() = 0; bridge(23, 1); needed() = 8; mend(1, 1, 0); needed() = 13");
    }
}
