/** Promises 25 to 33: each sentence that names a boundary case. */
public final class EdgesDeedsTest {
    private static final String LINE1 = Script.line(1), LINE2 = Script.line(2);
    private static final String LINE8 = Script.line(7) + "bridge(70, 4);";
    private static final String FIRM = Script.law("0");

    public static void main(String[] args) {
        dayOfBridges();
        dayOfBeggars();
        sits();
        given();
        repair();
        led();
        image();
        back();
        backLeaves();
        undo();
        redo();
        fortyChanges();
        Due.end();
    }

    private static void dayOfBridges() {
        Script.sentence(25, "without BRIDGES, with all of them", "day() = 0; day() = 0; led(0) = 2", LINE8, "day() = 8; county(0, 1) = 776");
        Script.sentence(25, "SOUND is so much less (0 at least)",
                Script.line(4), "mend(0, 1, 3); mend(1, 1, 2); mend(2, 1, 1); mend(3, 1, 0); day() = 1; of(0, 1) = 1; of(1, 1) = 0",
                "of(2, 1) = 0; of(3, 1) = 0; led(4) = 2; day() = 0; of(0, 1) = 0; led(4) = 3; day() = 0; led(4) = 3; led(0) = 3");
        Script.sentence(25, "DAY is one more, behind 6: 0",
                Script.each(7, "of(0, 8) = #; day() = 0"), "of(0, 8) = 0; day(); of(0, 8) = 1; mend(0, 8, 6); day(); of(0, 8) = 0; led(0) = 9");
        Script.sentence(25, "by THE LAW of the DAY that passes",
                LINE1, Script.law("10+d"), "mend(0, 8, 6); day() = 1; of(0, 1) = 83; day() = 1; of(0, 1) = 73; day() = 1; of(0, 1) = 62");
        Script.sentence(25, "no change of mend(): deeds are none",
                LINE1, "beggar(9, 9); sits(0, 0); day() = 1; count(3) = 0; undo() = STATE; redo() = STATE");
        Script.sentence(25, "ROWS, BODIES, THE TAPE stay",
                LINE1, Script.bytes(0, 5), "body(1); feed(115); act(0, 0, 1); day() = 1; element(0, 0) = 5; count(4) = 1; count(2) = 1; trace(0) = 20");
    }

    private static void dayOfBeggars() {
        Script.sentence(25, "MEANS within 0 .. 99 at once",
                LINE1, FIRM, "mend(0, 2, 9)", Script.each(4, "beggar(9, 9); sits(#, 0)"), "mend(0, 3, 99); mend(2, 3, 95); mend(2, 5, 0)",
                "mend(3, 3, 2); mend(3, 4, 3); day() = 1; of(0, 3) = 99; of(1, 3) = 0; of(2, 3) = 99; of(3, 3) = 0");
        Script.sentence(25, "SPENDS of each, wherever he SITS",
                LINE1, "mend(0, 1, 0)", Script.each(3, "beggar(9, 9); mend(#, 3, 9)"), "sits(1, 0); mend(2, 3, 10); day() = 0; of(0, 3) = 0",
                "of(1, 3) = 0; of(2, 3) = 1");
        Script.sentence(25, "by ALMS, or by ASKS, if that is less, on one that STANDS",
                LINE2, FIRM, "mend(1, 1, 1)", Script.each(4, "beggar(#, 0); sits(#, 0)"), "beggar(9, 0); sits(4, 1); day() = 2; of(0, 3) = 0",
                "of(1, 3) = 1; of(2, 3) = 2; of(3, 3) = 3; of(4, 3) = 3");
        Script.sentence(25, "on the day on which it falls he still has ALMS, then no more",
                LINE1, Script.law("9"), "mend(0, 1, 9); beggar(3, 1); sits(0, 0); day() = 0; of(0, 3) = 2; day() = 0; of(0, 3) = 1");
        Script.sentence(25, "who has nothing, as it stands when it begins",
                LINE1, Script.law("r*9+h"), "beggar(1, 0); sits(0, 0); mend(0, 3, 9); day() = 1; of(0, 1) = 98; day() = 1; of(0, 1) = 89");
    }

    private static void sits() {
        Script.sentence(26, "no such BEGGAR: VOID",
                LINE2, "beggar(1, 1); sits(-1, 0) = VOID; sits(1, 0) = VOID; sits(9, 0) = VOID; sits(LEAST, 0) = VOID; sits(MOST, -1) = VOID",
                "led(1) = 0; sits(0, 0) = -1; led(1) = 1");
        Script.sentence(26, "no such BRIDGE: VOID",
                LINE2, "beggar(1, 1); sits(0, 1) = -1; sits(0, -2) = VOID; sits(0, 2) = VOID; sits(0, 8) = VOID; sits(0, LEAST) = VOID",
                "sits(0, MOST) = VOID; of(0, 6) = 1; led(1) = 1");
        Script.sentence(26, "if there is no BRIDGE: nowhere alone", "beggar(1, 1); sits(0, 0) = VOID; sits(0, -1) = -1; of(0, 6) = -1");
        Script.sentence(26, "the last BEGGAR, the last BRIDGE",
                LINE8, Script.times(9, "beggar(1, 1)"), "sits(8, 7) = -1; sits(8, 0) = 7; sits(8, -1) = 0; sits(8, 8) = VOID; sits(9, 7) = VOID",
                "of(8, 6) = -1");
        Script.sentence(26, "where he sits already, nowhere, one that fell: seats, too",
                LINE2, "beggar(1, 1); mend(1, 1, 0); sits(0, 0) = -1; sits(0, 0) = 0; sits(0, 1) = 0; sits(0, -1) = 1; sits(0, -1) = -1",
                "led(1) = 5; led(0) = 0; led(2) = 0; led(3) = 0; led(4) = 0");
        Script.sentence(26, "all nine on one", LINE1, Script.each(9, "beggar(1, 1); sits(#, 0) = -1"), "claim(0) = 90; led(1) = 9");
        Script.sentence(26, "no change of mend(): a deed is none", LINE1, "beggar(1, 1); sits(0, 0) = -1; count(3) = 0; undo() = STATE; of(0, 6) = 0");
    }

    private static void given() {
        Script.sentence(27, "v (1 .. 99)",
                "beggar(1, 1); given(0, 0) = BAD; given(0, -1) = BAD; given(0, 100) = BAD; given(0, LEAST) = BAD; given(0, MOST) = BAD",
                "of(0, 3) = 0; led(2) = 0; given(0, 1) = 1; given(0, 1) = 2; led(2) = 2; mend(0, 3, 0); given(0, 99) = 99; led(2) = 101");
        Script.sentence(27, "no such BEGGAR",
                LINE2, "beggar(1, 1); given(-1, 1) = BAD; given(1, 1) = BAD; given(9, 1) = BAD; given(LEAST, 1) = BAD; given(MOST, 1) = BAD",
                "led(2) = 0");
        Script.sentence(27, "MEANS then (99 at most), led as told",
                "beggar(1, 1); mend(0, 3, 98); given(0, 1) = 99; given(0, 1) = 99; given(0, 99) = 99; of(0, 3) = 99; led(2) = 101; mend(0, 3, 1)",
                "given(0, 99) = 99; led(2) = 200");
        Script.sentence(27, "the last BEGGAR", Script.times(9, "beggar(1, 1)"), "given(8, 99) = 99; given(9, 1) = BAD; of(8, 3) = 99; of(7, 3) = 0");
        Script.sentence(27, "no change of mend()", "beggar(1, 1); given(0, 5) = 5; count(3) = 0; undo() = STATE; of(0, 3) = 5; led(0) = 0; led(3) = 0");
    }

    private static void repair() {
        Script.sentence(28, "v (1 .. 99)",
                LINE1, "mend(0, 1, 50); repair(0, 0) = BAD; repair(0, -1) = BAD; repair(0, 100) = BAD; repair(0, LEAST) = BAD",
                "repair(0, MOST) = BAD; of(0, 1) = 50; led(3) = 0; repair(0, 1) = 51; led(3) = 1; mend(0, 1, 0); repair(0, 99) = 99; led(3) = 100");
        Script.sentence(28, "no such BRIDGE",
                LINE1, "beggar(1, 1); beggar(1, 1); repair(-1, 1) = BAD; repair(1, 1) = BAD; repair(8, 1) = BAD; repair(LEAST, 1) = BAD",
                "repair(MOST, 1) = BAD; led(3) = 0");
        Script.sentence(28, "SOUND then (99 at most), led as told",
                LINE1, "repair(0, 1) = 99; repair(0, 99) = 99; led(3) = 100; mend(0, 1, 98); repair(0, 1) = 99; repair(0, 2) = 99; led(3) = 103",
                "mend(0, 1, 1); repair(0, 99) = 99; led(3) = 202");
        Script.sentence(28, "also one that fell",
                LINE1, Script.law("9"), "mend(0, 1, 5); day() = 0; led(4) = 1; repair(0, 1) = 1; county(0, 0) = 1; day() = 0; led(4) = 2",
                "repair(0, 10) = 10; day() = 1; of(0, 1) = 1; led(4) = 2; led(3) = 11");
        Script.sentence(28, "the last BRIDGE", LINE8, "mend(7, 1, 0); repair(7, 7) = 7; repair(8, 7) = BAD; of(7, 1) = 7; of(6, 1) = 99");
        Script.sentence(28, "no change of mend()", LINE1, "day(); repair(0, 1) = 98; count(3) = 0; undo() = STATE; of(0, 1) = 98; led(2) = 0");
    }

    private static void led() {
        Script.sentence(29, "what 0 to 4", "led(-1) = BAD; led(5) = BAD; led(LEAST) = BAD; led(MOST) = BAD; led(0) = 0; led(4) = 0");
        Script.sentence(29, "each of the five by its own deed alone",
                LINE1, "beggar(1, 1); day(); led(0) = 1; led(1) = 0; sits(0, 0); led(1) = 1; led(2) = 0; given(0, 7); led(2) = 7; led(3) = 0",
                "repair(0, 3); led(3) = 3; led(4) = 0; mend(0, 1, 1); mend(0, 3, 50); day(); led(4) = 1; led(0) = 2; led(1) = 1; led(2) = 7");
        Script.sentence(29, "what mend() does is no deed",
                LINE1, "beggar(1, 1); mend(0, 6, 0); mend(0, 3, 9); mend(0, 1, 0); mend(0, 1, 99); mend(0, 8, 5); undo(); redo(); undo()",
                Script.each(5, "led(#) = 0"));
        Script.sentence(29, "refused deeds are none",
                LINE1, "beggar(1, 1); sits(0, 1) = VOID; sits(1, 0) = VOID; given(0, 0) = BAD; given(1, 1) = BAD; repair(0, 0) = BAD; repair(1, 1) = BAD",
                "back() = STATE", Script.each(5, "led(#) = 0"));
        Script.sentence(29, "days in thought are none",
                LINE1, "beggar(1, 4); sits(0, 0); led(1) = 1; later(60, 0, 0) = 99; county(60, 1) = 99; falls(0) = NOT; without(0) = 50; moved(20, 2) = 900",
                "byTurns(0, 320, 0) = 83; drawn(1, 306012, 0) = 0; led(0) = 0; led(1) = 1; led(2) = 0; led(4) = 0");
        Script.sentence(29, "all eight fall on one day", LINE8, Script.each(8, "mend(#, 1, 2)"), "day() = 0; led(4) = 8; day() = 0; led(4) = 8");
    }

    private static void image() {
        Script.sentence(30, "of a county without anything", "image() = 0; back() = 0; day(); image() = 1; day(); day(); back() = 1; of(0, 8) = 1");
        Script.sentence(30, "days are those that LED tells, not the DAY",
                Script.times(8, "day()"), "of(0, 8) = 1; image() = 8; mend(0, 8, 5); image() = 8; back() = 8; of(0, 8) = 5");
        Script.sentence(30, "the later one alone is kept",
                LINE1, "image() = 0; day(); image() = 1; day(); back() = 1; of(0, 1) = 97; back() = 1; day(); back() = 1; of(0, 1) = 97");
        Script.sentence(30, "keeping it is no change, nor a deed",
                LINE1, "beggar(1, 1); mend(0, 0, 5); undo(); image() = 0; count(3) = 0; redo() = 0; of(0, 0) = 5", Script.each(5, "led(#) = 0"));
    }

    private static void back() {
        Script.sentence(31, "STATE: there is none", "back() = STATE; day(); back() = STATE; led(0) = 1; image() = 1; back() = 1");
        Script.sentence(31, "SOUND, MEANS, SITS, DAY, what LED tells",
                LINE2, "beggar(9, 1); beggar(9, 1); sits(0, 0); sits(1, 1); given(1, 20); repair(1, 5); day() = 2; of(1, 1) = 95; image() = 1",
                "sits(0, 1); sits(1, -1); given(0, 40); repair(0, 9); mend(1, 1, 1); day(); day(); led(4) = 1; back() = 1",
                "of(0, 1) = 99; of(1, 1) = 95; of(0, 3) = 2; of(1, 3) = 22; of(0, 6) = 0; of(1, 6) = 1; of(0, 8) = 1",
                "led(0) = 1; led(1) = 2; led(2) = 20; led(3) = 5; led(4) = 0; day() = 2; led(0) = 2");
        Script.sentence(31, "a BRIDGE that fell since STANDS again",
                LINE1, "mend(0, 1, 1); image() = 0; day() = 0; back() = 0; county(0, 0) = 1; of(0, 1) = 1; led(4) = 0; led(0) = 0");
        Script.sentence(31, "BRIDGES, BEGGARS that came since as they are",
                LINE1, "beggar(1, 1); mend(0, 3, 30); image() = 0; bridge(12, 5); beggar(2, 2); mend(1, 1, 44); sits(1, 1); sits(0, 1); given(1, 55)",
                "back() = 0; count(0) = 2; count(1) = 2; of(1, 1) = 44; of(1, 3) = 55; of(1, 6) = 1; of(0, 6) = -1; of(0, 3) = 30; led(1) = 0");
        Script.sentence(31, "all that may come came since",
                "image() = 0", LINE8, Script.each(9, "beggar(1, 1); mend(#, 3, #); mend(#, 6, 7)"), "day() = 8; back() = 0; of(0, 8) = 0",
                "count(0) = 8; count(1) = 9; of(0, 1) = 97; of(6, 1) = 97; of(7, 1) = 99; of(8, 3) = 8; of(8, 6) = 7");
        Script.sentence(31, "it is kept behind that, too", LINE1, "image() = 0; day(); back() = 0; day(); back() = 0; day(); back() = 0; of(0, 1) = 99");
    }

    private static void backLeaves() {
        Script.sentence(31, "SPAN, ALMS, ASKS, SPENDS, POOR are not in it",
                LINE1, "beggar(4, 4); image() = 0; mend(0, 0, 9); mend(0, 2, 8); mend(0, 4, 7); mend(0, 5, 6); mend(0, 7, 5); back() = 0",
                "of(0, 0) = 9; of(0, 2) = 8; of(0, 4) = 7; of(0, 5) = 6; of(0, 7) = 5");
        Script.sentence(31, "THE LAW, THE TAPE, SHELVES, BODIES are not in it",
                LINE1, "image() = 0", FIRM, "feed(115); body(3); keep(1, 0)", Script.bytes(0, 7), "act(0, 0, 1); back() = 0; cracks(0) = 0; count(2) = 1",
                "count(4) = 1; taken(1, 3) = 3; element(0, 0) = 7; trace(0) = 1; law() = 1; cracks(0) = 4");
        Script.sentence(31, "CHANGES stay as they are",
                LINE1, "mend(0, 1, 50); mend(0, 0, 7); image() = 0; mend(0, 1, 40); mend(0, 7, 3); undo() = 3; back() = 0; of(0, 1) = 50; count(3) = 3",
                "redo() = 0; of(0, 7) = 3; undo() = 3; undo() = 2; of(0, 1) = 50; undo() = 1; of(0, 0) = 4; undo() = 0; of(0, 1) = 99; undo() = STATE");
    }

    private static void undo() {
        Script.sentence(32, "STATE: none", "undo() = STATE; mend(0, 7, 5); undo() = 0; undo() = STATE; of(0, 7) = 9; count(3) = 0");
        Script.sentence(32, "all numbers of mend()",
                LINE1, "beggar(4, 4); mend(0, 0, 1); mend(0, 1, 2); mend(0, 2, 4); mend(0, 3, 5); mend(0, 4, 6); mend(0, 5, 7); mend(0, 6, 0)",
                "mend(0, 7, 8); mend(0, 8, 3); count(3) = 9; undo() = 8; of(0, 8) = 0; undo() = 7; of(0, 7) = 9; undo() = 6; of(0, 6) = -1",
                "undo() = 5; of(0, 5) = 4; undo() = 4; of(0, 4) = 4; undo() = 3; of(0, 3) = 0; undo() = 2; of(0, 2) = 3; undo() = 1; of(0, 1) = 99",
                "undo() = 0; of(0, 0) = 4; undo() = STATE");
        Script.sentence(32, "telling the same number is none",
                LINE1, "mend(0, 0, 4) = 4; count(3) = 0; undo() = STATE; mend(0, 0, 5); mend(0, 0, 5) = 5; count(3) = 1; undo() = 0; of(0, 0) = 4");
        Script.sentence(32, "a refused mend() is none",
                LINE1, "mend(0, 0, 0) = VOID; mend(1, 0, 5) = VOID; mend(0, 9, 5) = VOID; count(3) = 0; undo() = STATE; mend(0, 0, 5); undo() = 0",
                "mend(0, 0, 10) = VOID; redo() = 0; of(0, 0) = 5");
        Script.sentence(32, "deeds are none (SOUND, MEANS, SITS, DAY by them, too)",
                LINE1, "beggar(1, 1); mend(0, 0, 5); day(); sits(0, 0); given(0, 3); repair(0, 1); image(); back(); count(3) = 1; undo() = 0; undo() = STATE",
                "of(0, 6) = 0; of(0, 3) = 3; of(0, 8) = 1");
        Script.sentence(32, "what the number was when it was told, whatever deeds came behind",
                LINE1, "beggar(1, 0); mend(0, 1, 60); mend(0, 3, 5); mend(0, 6, 0); mend(0, 8, 4); day(); sits(0, -1); given(0, 9); undo() = 3; of(0, 8) = 0",
                "undo() = 2; of(0, 6) = -1; undo() = 1; of(0, 3) = 0; undo() = 0; of(0, 1) = 99; redo() = 3; of(0, 1) = 60; redo() = 2; of(0, 3) = 5",
                "redo() = 1; of(0, 6) = 0; redo() = 0; of(0, 8) = 4");
        Script.sentence(32, "of the BRIDGE, the BEGGAR that it was told of",
                LINE8, Script.each(9, "beggar(1, 1)"), "mend(7, 0, 9); mend(8, 5, 9); mend(0, 0, 9); undo() = 2; of(0, 0) = 4; of(7, 0) = 9; undo() = 1",
                "of(8, 5) = 1; undo() = 0; of(7, 0) = 4; redo() = 2; of(7, 0) = 9; of(0, 0) = 4; redo() = 1; of(8, 5) = 9; redo() = 0; of(0, 0) = 9");
    }

    private static void redo() {
        Script.sentence(33, "STATE: none", "redo() = STATE; mend(0, 7, 5); redo() = STATE; undo() = 0; redo() = 0; redo() = STATE; of(0, 7) = 5; count(3) = 1");
        Script.sentence(33, "as long as no other came behind",
                "mend(0, 7, 1); mend(0, 7, 2); mend(0, 7, 3); undo() = 2; undo() = 1; redo() = 1; of(0, 7) = 2; undo() = 1; mend(0, 7, 8) = 1",
                "redo() = STATE; count(3) = 2; undo() = 1; of(0, 7) = 1; redo() = 0; of(0, 7) = 8; undo(); undo() = 0; of(0, 7) = 9; mend(0, 8, 1)",
                "redo() = STATE; count(3) = 1");
        Script.sentence(33, "telling the same number is no other one",
                "mend(0, 7, 1); undo() = 0; mend(0, 7, 9) = 9; mend(0, 8, 0) = 0; redo() = 0; of(0, 7) = 1");
        Script.sentence(33, "deeds, BRIDGES, BEGGARS, TEXTS that come are no others",
                LINE1, "beggar(1, 1); mend(0, 1, 50); undo() = 0; day(); sits(0, 0); given(0, 1); repair(0, 1); bridge(12, 1); beggar(1, 1)", FIRM,
                Script.bytes(0, 1, 1, 1, -1), "beggars(0, 0, 1) = 1; image(); back(); body(0); act(0, 0, 0); redo() = 0; of(0, 1) = 50; redo() = STATE");
        Script.sentence(33, "undone and done again, over and over",
                "mend(0, 7, 1); mend(0, 7, 2)", Script.times(20, "undo() = 1; undo() = 0; undo() = STATE; redo() = 1; redo() = 0; redo() = STATE"),
                "of(0, 7) = 2; count(3) = 2");
    }

    private static void fortyChanges() {
        Script.sentence(32, "40 of them", Script.each(39, "mend(0, 7, #)"), "count(3) = 39; mend(0, 7, 99); count(3) = 40",
                "undo() = 39; of(0, 7) = 38; redo() = 0; redo() = STATE; of(0, 7) = 99");
        StringBuilder all = new StringBuilder();
        for (int v = 10; v <= 50; v++) {
            all.append("mend(0, 7, ").append(v).append(") = ").append(v - 1).append(";");
        }
        StringBuilder undone = new StringBuilder();
        StringBuilder again = new StringBuilder();
        for (int left = 39; left >= 0; left--) {
            undone.append("undo() = ").append(left).append("; of(0, 7) = ").append(left + 10).append(";");
            again.append("redo() = ").append(left).append("; of(0, 7) = ").append(50 - left).append(";");
        }
        Script.sentence(32, "40 at most are kept: the oldest is not", all.toString(), "count(3) = 40", undone.toString(), "undo() = STATE; of(0, 7) = 10; count(3) = 0",
                again.toString(), "redo() = STATE; of(0, 7) = 50; count(3) = 40");
        StringBuilder mixed = new StringBuilder();
        StringBuilder oldest = new StringBuilder();
        for (int i = 0; i < 43; i++) {
            mixed.append("mend(").append(i % 8).append(", ").append(i % 3).append(", ").append(5 + i / 24).append(");");
        }
        for (int i = 42; i >= 3; i--) {
            int[] first = {4, 99, 3};
            int was = i >= 24 ? 5 : first[i % 3];
            oldest.append("undo() = ").append(i - 3).append("; of(").append(i % 8).append(", ").append(i % 3).append(") = ").append(was).append(";");
        }
        Script.sentence(32, "40 at most are kept: of BRIDGES, of numbers by turns", LINE8, mixed.toString(), "count(3) = 40", oldest.toString(),
                "undo() = STATE; of(0, 0) = 5; of(1, 1) = 5; of(2, 2) = 5; of(3, 0) = 4; redo() = 39; of(3, 0) = 5; of(4, 1) = 99");
        Script.sentence(32, "40 at most are kept: one undone makes room", all.toString(), "undo() = 39; mend(0, 7, 70) = 49; count(3) = 40; redo() = STATE; undo() = 39",
                "of(0, 7) = 49; undo() = 38; of(0, 7) = 48; redo() = 1; redo() = 0; of(0, 7) = 70; mend(0, 7, 71); count(3) = 40; undo() = 39; of(0, 7) = 70");
        Script.sentence(32, "40 at most are kept: a refused one, one of the same number push none out",
                all.toString(), "mend(0, 7, 100) = VOID; mend(0, 7, 50) = 50; count(3) = 40", Script.times(40, "undo()"), "of(0, 7) = 10; count(3) = 0");
    }
}
