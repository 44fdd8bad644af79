/** The term SETUPS, and the promises of texts and of a new object. */
final class SetupSentences extends Sentences {
    private static final String HEAD = "angle 60 radius 3; ";

    @Override
    void tests() {
        buffer();
        tokens();
        blanks();
        numbers();
        grammar();
        errors();
        notAllowed();
        outOfRange();
        places();
        manyChips();
        newObject();
        appendText();
        truncateText();
        load();
        loadOfErrors();
        errorCode();
        errorPosition();
    }

    /** A setup with so many chips; 30 of them are the most. */
    static String pins(int count) {
        StringBuilder text = new StringBuilder("angle 180 radius 6;");
        for (int i = 0; i < count; i++) {
            text.append("pin1 1 ").append(i % 13 - 6).append(' ').append(i / 13).append(';');
        }
        return text.toString();
    }

    private static String repeated(char c, int times) {
        return String.valueOf(c).repeat(times);
    }

    private void wrong(String text, int code, int position) {
        KaleidoscopeBox b = box("angle 45 radius 1; pin 1 1 0 0;");
        is(NONE, Due.load(b, text));
        is(code, b.errorCode());
        is(position, b.errorPosition());
        is(45, b.count(0));
        is(1, b.count(5));
    }

    private void right(String text, int chips) {
        KaleidoscopeBox b = box("angle 45 radius 1; pin 1 1 0 0;");
        is(chips, Due.load(b, text));
        is(0, b.errorCode());
        is(NONE, b.errorPosition());
        is(chips, b.count(6));
    }

    private void buffer() {
        at("SETUPS");
        test("A setup is an ASCII text that is collected in a text buffer of at most 600 bytes.", () -> {
            String setup = "angle 60 radius 3;";
            right(setup + repeated(' ', 600 - setup.length()), 0);
            right(repeated('\n', 600 - setup.length()) + setup, 0);
            wrong(repeated(' ', 600 - setup.length() + 1) + "angle 60 radius 3", 1, 600);
            wrong(repeated(' ', 600), 1, 600);
            wrong(setup + repeated(' ', 599 - setup.length()) + "x", 1, 599);
            wrong("\u00e1ngle 60 radius 3;", 1, 0);
            wrong("angle 60 radius 3;\u00a0", 1, 18);
            wrong("angle 60 radius 3\u00bb", 1, 17);
        });
    }

    private void tokens() {
        at("SETUPS");
        test("words (maximal runs of the letters a to z)", () -> {
            right("angle60radius3;", 0);
            wrong("angleradius 60 3;", 1, 0);
            wrong("ang le 60 radius 3;", 1, 0);
            wrong("anglee 60 radius 3;", 1, 0);
            wrong("angl 60 radius 3;", 1, 0);
            wrong("anglea 60 radius 3;", 1, 0);
            wrong("anglez 60 radius 3;", 1, 0);
            wrong("zangle 60 radius 3;", 1, 0);
            wrong("Angle 60 radius 3;", 1, 0);
            wrong("angle 60 radiuS 3;", 1, 9);
            wrong("angle 60 radius{3;", 1, 15);
            wrong("angle`60 radius 3;", 1, 5);
            wrong("{ngle 60 radius 3;", 1, 0);
            wrong("`ngle 60 radius 3;", 1, 0);
        });
        test("numbers (maximal runs of the digits 0 to 9)", () -> {
            wrong("angle 6 0 radius 3;", 2, 6);
            wrong("angle 60 radius 3 3;", 1, 18);
            wrong("angle 60 radius 33;", 2, 16);
            wrong("angle 60 radius /;", 1, 16);
            wrong("angle 60 radius 3:", 1, 17);
            wrong("angle 60 radius 3.0;", 1, 17);
            right("angle 180 radius 6; pin 9 9 6 6; keep 10;", 1);
        });
        test("minus signs and semicolons", () -> {
            right("angle 180 radius 3; pin 1 1-3 3;", 1);
            wrong("angle 180 radius 3; pin 1 1--3 3;", 1, 28);
            wrong("angle 60 radius 3;;", 1, 18);
            wrong("angle 60 radius 3,", 1, 17);
            wrong("angle 180 radius 3; pin 1 1 +3 3;", 1, 28);
        });
    }

    private void blanks() {
        at("SETUPS");
        test("Spaces (byte 32) and line feeds (byte 10) may stand before, between and behind tokens.", () -> {
            right(" \n\n angle\n60 \n radius  3\n;\n \n", 0);
            right("\nangle 180 radius 3;\npin 1\n1\n-\n3 \n 3\n;", 1);
            for (char c : new char[] {0, 1, 9, 11, 12, 13, 31, 33, 127, 128, 138, 160, 255}) {
                wrong(c + "angle 60 radius 3;", 1, 0);
                wrong("angle" + c + "60 radius 3;", 1, 5);
                wrong("angle 60 radius 3;" + c, 1, 18);
            }
        });
    }

    private void numbers() {
        at("SETUPS");
        test("Numbers may have any number of digits.", () -> {
            right("angle 00060 radius 03;", 0);
            right("angle 60 radius " + repeated('0', 500) + "3;", 0);
            right(HEAD + "pin 01 0000000000009 00 -0000000000000000000000;", 1);
            wrong("angle 60 radius " + repeated('0', 500) + ";", 2, 16);
            wrong("angle 4294967356 radius 3;", 2, 6);
            wrong("angle 18446744073709551676 radius 3;", 2, 6);
            wrong("angle " + repeated('9', 500) + " radius 3;", 2, 6);
            wrong("angle 60 radius 4294967299;", 2, 16);
            wrong(HEAD + "keep 4294967297;", 2, 24);
            wrong(HEAD + "pin 1 1 4294967296 0;", 2, 27);
            wrong(HEAD + "cover 18446744073709551616;", 2, 25);
            wrong(HEAD + "down 1" + repeated('0', 400) + ";", 2, 24);
        });
    }

    private void grammar() {
        at("SETUPS");
        test("setup = \"angle\" ANGLE \"radius\" RADIUS \";\" { statement \";\" }", () -> {
            right("angle 60 radius 3;", 0);
            wrong("", 1, 0);
            wrong("angle 60 radius 3", 1, 17);
            wrong("radius 3 angle 60;", 1, 0);
            wrong("angle 60; radius 3;", 1, 8);
            wrong("60 radius 3;", 1, 0);
            wrong(HEAD + "keep 5", 1, 25);
            wrong(HEAD + "keep 5 down 1;", 1, 26);
            wrong(HEAD + "keep 5; angle 60 radius 3;", 1, 27);
            wrong(HEAD + "keep 5;; down 1;", 1, 26);
            right(HEAD + "keep 5; down 1;", 0);
        });
        test("statement = ( \"glass\" | \"bead\" | \"bubble\" | \"pin\" ) COLOUR WEIGHT PLACE PLACE | \"down\" DIRECTION |"
            + " \"keep\" KEEP | \"cover\" MIRROR", () -> {
            KaleidoscopeBox b = box("angle 90 radius 3; glass 1 2 3 0; bead 3 4 2 1; bubble 5 6 1 2; pin 7 8 0 3; down 6;"
                + "keep 77; cover 1;");
            int[][] chips = {{0, 1, 2, 3, 0}, {1, 3, 4, 2, 1}, {2, 5, 6, 1, 2}, {3, 7, 8, 0, 3}};
            for (int chip = 0; chip < 4; chip++) {
                for (int what = 0; what < 5; what++) {
                    is(chips[chip][what], b.chip(chip, what));
                }
            }
            is(6, b.count(2));
            is(77, b.count(3));
            is(2, b.count(10));
            wrong(HEAD + "glas 1 1 0 0;", 1, 19);
            wrong(HEAD + "glasss 1 1 0 0;", 1, 19);
            wrong(HEAD + "stone 1 1 0 0;", 1, 19);
            wrong(HEAD + "bin 1 1 0 0;", 1, 19);
            wrong(HEAD + "pit 1 1 0 0;", 1, 19);
            wrong(HEAD + "pun 1 1 0 0;", 1, 19);
            wrong(HEAD + "town 1;", 1, 19);
            wrong(HEAD + "weep 1;", 1, 19);
            wrong(HEAD + "hover 1;", 1, 19);
            wrong("dangle 60 radius 3;", 1, 0);
            wrong("ankle 60 radius 3;", 1, 0);
            wrong("angle 60 radium 3;", 1, 9);
            wrong(HEAD + "pin 1 1 0;", 1, 28);
            wrong(HEAD + "pin 1 1 0 0 0;", 1, 31);
            wrong(HEAD + "down;", 1, 23);
            wrong(HEAD + "keep -5;", 1, 24);
            wrong(HEAD + "cover 0 1;", 1, 27);
        });
        test("PLACE = [ \"-\" ] number", () -> {
            right("angle 180 radius 3; pin 1 1 -3 -0; pin 1 1 - 2 3;", 2);
            wrong("angle 180 radius 3; pin 1 1 - - 3 0;", 1, 30);
            wrong("angle 180 radius 3; pin 1 1 3 -;", 1, 31);
            wrong("angle 180 radius 3; pin 1 1 x 0;", 1, 28);
            wrong("angle 180 radius 3; pin -1 1 0 0;", 1, 24);
            wrong("angle 180 radius -3;", 1, 17);
        });
        test("The two PLACES are x and y of a chip.", () -> {
            KaleidoscopeBox b = box("angle 180 radius 3; pin 1 1 -3 2;");
            is(-3, b.chip(0, 3));
            is(2, b.chip(0, 4));
        });
        test("\"down\" and \"keep\" can be told several times; the last one counts.", () -> {
            KaleidoscopeBox b = box(HEAD + "down 5; keep 1; down 4; keep 100; keep 50; down 3;");
            is(3, b.count(2));
            is(50, b.count(3));
        });
    }

    private void errors() {
        at("SETUPS");
        test("the parser reads the tokens from the first one on and stops at the first token that is wrong", () -> {
            wrong("angle 61 radius 9 !", 2, 6);
            wrong("angle 60 radius 9 !", 2, 16);
            wrong("angle 60 ! radius 9", 1, 9);
            wrong(HEAD + "pin 0 0 7 7; pin", 2, 23);
            wrong(HEAD + "pin 1 1 2 2; keep 0;", 3, 29);
        });
        test("The error position is the index of its first byte", () -> {
            wrong("  angle 180\nradius  77 ;", 2, 20);
            wrong(HEAD + "pin 1 1 - 7 0;", 2, 29);
            wrong(HEAD + "pin 1 1 0 - 3;", 3, 31);
            wrong(HEAD + "    marble 1 1 0 0;", 1, 23);
            wrong(HEAD + "pin 1 1 0 0 keep 5;", 1, 31);
        });
        test("or the length of the text if the text ends too early", () -> {
            wrong("", 1, 0);
            wrong("angle", 1, 5);
            wrong("angle ", 1, 6);
            wrong("angle 60\n\n", 1, 10);
            wrong("angle 60 radius", 1, 15);
            wrong("angle 60 radius 3  ", 1, 19);
            wrong(HEAD + "pin", 1, 22);
            wrong(HEAD + "pin 1", 1, 24);
            wrong(HEAD + "pin 1 1", 1, 26);
            wrong(HEAD + "pin 1 1 0", 1, 28);
            wrong(HEAD + "pin 1 1 -", 1, 28);
            wrong(HEAD + "pin 1 1 0 - ", 1, 31);
            wrong(HEAD + "pin 1 1 0 0\n", 1, 31);
            wrong(HEAD + "down ", 1, 24);
            wrong(HEAD + "keep", 1, 23);
            wrong(HEAD + "cover", 1, 24);
            wrong(HEAD + "cover 1 ", 1, 27);
        });
    }

    private void notAllowed() {
        at("SETUPS");
        test("is 1 if the token is not allowed there", () -> {
            wrong("5", 1, 0);
            wrong(";", 1, 0);
            wrong("-", 1, 0);
            wrong("angle radius", 1, 6);
            wrong("angle -60", 1, 6);
            wrong(HEAD + "radius 3;", 1, 19);
            wrong(HEAD + "7;", 1, 19);
            wrong(HEAD + "-;", 1, 19);
            wrong(HEAD + "cover -1;", 1, 25);
            wrong(HEAD + "pin bead;", 1, 23);
        });
        test("if a byte belongs to no token", () -> {
            wrong("?", 1, 0);
            wrong("angle 60 radius 3;#", 1, 18);
            wrong(HEAD + "glass_ 1 1 0 0;", 1, 24);
            wrong(HEAD + "glass 1 1 0 0\0;", 1, 32);
            wrong(HEAD + "glass 1 1 0 0.5;", 1, 32);
        });
        test("or if the text ends too early", () -> {
            wrong("   ", 1, 3);
            wrong(HEAD + "glass 1 1 0 0", 1, 32);
        });
    }

    private void outOfRange() {
        at("SETUPS");
        test("2 if a number is out of its range", () -> {
            wrong("angle 60 radius 0;", 2, 16);
            wrong("angle 60 radius 7;", 2, 16);
            right("angle 60 radius 1; pin 1 9 0 0; pin 9 1 1 0;", 2);
            right("angle 60 radius 6; pin 1 9 0 6; pin 9 1 6 0;", 2);
            wrong(HEAD + "pin 0 1 0 0;", 2, 23);
            wrong(HEAD + "pin 10 1 0 0;", 2, 23);
            wrong(HEAD + "pin 1 0 0 0;", 2, 25);
            wrong(HEAD + "pin 1 10 0 0;", 2, 25);
            wrong(HEAD + "keep 0;", 2, 24);
            right(HEAD + "keep 1;", 0);
            right(HEAD + "keep 100;", 0);
            wrong(HEAD + "keep 101;", 2, 24);
        });
        test("2 if a number is out of its range (for ANGLE: none of the five", () -> {
            for (int angle : new int[] {0, 29, 31, 44, 46, 59, 61, 89, 91, 120, 179, 181}) {
                wrong("angle " + angle + " radius 3;", 2, 6);
            }
            for (int angle : ANGLES) {
                right("angle " + angle + " radius 3; down 0; down 5;", 0);
                boolean areSquares = angle == 180 || angle == 90 || angle == 45;
                KaleidoscopeBox b = new KaleidoscopeBox();
                is(areSquares ? 0 : NONE, Due.load(b, "angle " + angle + " radius 3; down 6; down 7;"));
                is(NONE, Due.load(b, "angle " + angle + " radius 3; down 8;"));
                is(2, b.errorCode());
            }
        });
        test("the number of a PLACE: above 6", () -> {
            wrong("angle 180 radius 6; pin 1 1 7 0;", 2, 28);
            wrong("angle 180 radius 6; pin 1 1 -7 0;", 2, 29);
            wrong("angle 180 radius 6; pin 1 1 0 7;", 2, 30);
            wrong("angle 180 radius 6; pin 1 1 0 -7;", 2, 31);
            right("angle 180 radius 6; pin 1 1 6 6; pin 1 1 -6 0;", 2);
            wrong("angle 180 radius 6; pin 1 1 -6 -6;", 3, 32);
            wrong("angle 180 radius 5; pin 1 1 6 0;", 3, 30);
        });
        test("MIRROR: there is no such one", () -> {
            for (int angle : new int[] {90, 45, 60, 30}) {
                right("angle " + angle + " radius 1; cover 0; cover 1;", 0);
                wrong("angle " + angle + " radius 1; cover 2;", 2, 25);
            }
            right("angle 180 radius 1; cover 0;", 0);
            wrong("angle 180 radius 1; cover 1;", 2, 26);
        });
    }

    private void places() {
        at("SETUPS");
        test("3 for the number of the second PLACE if that cell is not in the box", () -> {
            wrong("angle 180 radius 3; pin 1 1 0 -1;", 3, 31);
            wrong("angle 180 radius 3; pin 1 1 4 0;", 3, 30);
            wrong("angle 90 radius 3; pin 1 1 -1 0;", 3, 30);
            wrong("angle 60 radius 3; pin 1 1 2 2;", 3, 29);
            wrong("angle 45 radius 3; pin 1 1 1 2;", 3, 29);
            wrong("angle 30 radius 3; pin 1 1 3 1;", 3, 29);
            right("angle 30 radius 3; pin 1 1 2 1; pin 1 1 1 1;", 2);
        });
        test("or has a chip already", () -> {
            wrong(HEAD + "pin 1 1 1 0; bubble 2 2 1 0;", 3, 45);
            wrong(HEAD + "pin 1 1 0 0; pin 1 1 -0 -0;", 3, 44);
            right(HEAD + "pin 1 1 1 0; pin 1 1 0 1;", 2);
        });
        test("and for a MIRROR that is covered already", () -> {
            wrong(HEAD + "cover 0; cover 0;", 3, 34);
            wrong(HEAD + "cover 1; cover 0; cover 1;", 3, 43);
            right(HEAD + "cover 1; cover 0;", 0);
        });
        test("The error code, of several the least", () -> {
            wrong("angle 60 radius 3; pin 1 1 0 9;", 2, 29);
            wrong("angle 60 radius 3; pin 1 1 6 7;", 2, 29);
            wrong("angle 180 radius 3; cover 0; cover 1;", 2, 35);
            wrong(pins(30) + "marble 1 1 0 0;", 1, pins(30).length());
            wrong(pins(30) + "1", 1, pins(30).length());
        });
    }

    private void manyChips() {
        at("SETUPS");
        test("4 for the first word of a 31st chip.", () -> {
            right(pins(30), 30);
            int[] last = {0, 9, 8, -6, 6, 0};
            for (int what = 0; what < last.length; what++) {
                is(last[what], box(pins(29) + "glass 9 8 -6 6;").chip(29, what));
            }
            wrong(pins(31), 4, pins(30).length());
            for (String kind : new String[] {"glass", "bead", "bubble", "pin"}) {
                wrong(pins(30) + "  " + kind, 4, pins(30).length() + 2);
                wrong(pins(30) + kind + " 0 0 9 9;", 4, pins(30).length());
            }
            right(pins(30) + "down 7; cover 0; keep 1;", 30);
        });
    }

    private void newObject() {
        at("Promise 1");
        test("Creates an empty box as with the text \"angle 60 radius 3;\"", () -> {
            int[] counts = {60, 3, 0, 90, 0, 0, 0, 10, 37, 37, 0, 0, 0, 0, 6, 0};
            KaleidoscopeBox b = new KaleidoscopeBox();
            KaleidoscopeBox loaded = box("angle 60 radius 3;");
            for (int what = 0; what < counts.length; what++) {
                is(counts[what], b.count(what));
                is(counts[what], loaded.count(what));
            }
            fails(INDEX, () -> b.chip(0, 0));
            fails(INDEX, () -> b.chipAt(2, 2));
            is(NONE, b.chipAt(2, 1));
            is(NONE, b.commonest(0));
            is(37, b.cellsOf(0));
        });
        test("with an empty text buffer and no saved states", () -> {
            KaleidoscopeBox b = new KaleidoscopeBox();
            is(0, b.truncateText(0));
            fails(ARGUMENT, () -> b.truncateText(1));
            is(NONE, b.load());
            is(0, b.errorPosition());
            fails(STATE, () -> b.matches(0));
            fails(STATE, () -> b.restore(1));
            is(NONE, b.undo());
            is(NONE, b.output(0));
            is(0, b.account(0) + b.account(1) + b.account(2) + b.account(3) + b.account(4) + b.account(5));
        });
    }

    private void appendText() {
        at("Promise 2");
        test("Appends four bytes to the text buffer, the highest byte of the parameter first.", () -> {
            KaleidoscopeBox b = new KaleidoscopeBox();
            b.appendText('a' << 24 | 'n' << 16 | 'g' << 8 | 'l');
            b.appendText('e' << 24 | '3' << 16 | '0' << 8 | 'r');
            b.appendText('a' << 24 | 'd' << 16 | 'i' << 8 | 'u');
            b.appendText('s' << 24 | '2' << 16 | ';' << 8 | ' ');
            is(0, b.load());
            is(30, b.count(0));
            b.appendText(0x2020FF20);
            b.load();
            is(2, b.errorPosition());
            b.appendText(-1);
            b.load();
            is(0, b.errorPosition());
        });
        test("Returns the length of the text in bytes.", () -> {
            KaleidoscopeBox b = new KaleidoscopeBox();
            for (int length = 4; length <= 600; length += 4) {
                is(length, b.appendText(length * 0x01010101));
            }
            b.truncateText(1);
            is(5, b.appendText(0));
            b.load();
            is(4, b.appendText(MOST));
        });
        test("Throws `IllegalStateException` if the text would be longer than 600 bytes", () -> {
            KaleidoscopeBox b = new KaleidoscopeBox();
            for (int i = 0; i < 150; i++) {
                b.appendText(0x20202020);
            }
            fails(STATE, () -> b.appendText(0x20202020));
            for (int length = 599; length >= 597; length--) {
                b.truncateText(length);
                fails(STATE, () -> b.appendText(0x20202020));
            }
            b.truncateText(596);
            is(600, b.appendText(0x20202020));
            fails(STATE, () -> b.appendText(0x20202020));
            b.load();
            is(600, b.errorPosition());
            is(4, b.appendText(0x20202020));
        });
    }

    private void truncateText() {
        at("Promise 3");
        test("Cuts the text to its first bytes.", () -> {
            KaleidoscopeBox b = new KaleidoscopeBox();
            Due.put(b, "angle 45 radius 2;xy");
            b.truncateText(18);
            is(0, b.load());
            is(45, b.count(0));
            Due.put(b, "    xxxx");
            b.truncateText(4);
            b.appendText(0x20202020);
            b.load();
            is(8, b.errorPosition());
        });
        test("the new length, 0 to the present length", () -> {
            KaleidoscopeBox b = new KaleidoscopeBox();
            is(0, b.truncateText(0));
            b.appendText(0);
            is(4, b.truncateText(4));
            is(3, b.truncateText(3));
            fails(ARGUMENT, () -> b.truncateText(4));
            is(0, b.truncateText(0));
            fails(ARGUMENT, () -> b.truncateText(1));
        });
        test("Returns the new length.", () -> {
            KaleidoscopeBox b = new KaleidoscopeBox();
            for (int i = 0; i < 150; i++) {
                b.appendText(0x20202020);
            }
            is(600, b.truncateText(600));
            is(1, b.truncateText(1));
        });
        test("Throws `IllegalArgumentException` if length is out of range", () -> {
            KaleidoscopeBox b = new KaleidoscopeBox();
            b.appendText(0);
            fails(ARGUMENT, () -> b.truncateText(-1));
            fails(ARGUMENT, () -> b.truncateText(5));
            fails(ARGUMENT, () -> b.truncateText(LEAST));
            fails(ARGUMENT, () -> b.truncateText(MOST));
            is(4, b.truncateText(4));
        });
    }

    private void load() {
        at("Promise 4");
        test("Reads the text as a setup.", () -> {
            KaleidoscopeBox b = box("angle 90 radius 2; down 6; keep 80; cover 1; bead 7 2 1 1; bubble 3 9 2 0;");
            int[] counts = {90, 2, 6, 80, 0, 2, 2, 9, 25, 15, 2, 0, 0, 0, 8, 0};
            for (int what = 0; what < counts.length; what++) {
                is(counts[what], b.count(what));
            }
        });
        test("it replaces everything that acts can change, with all counts 0, and what is not told as at first", () -> {
            KaleidoscopeBox b = box("angle 180 radius 2; down 6; keep 80; cover 0; pin 1 1 0 0; bead 7 2 0 1; glass 1 1 2 1;"
                + "bubble 1 1 2 0;");
            b.settle();
            is(1, b.count(13));
            is(1, b.count(12));
            is(1, Due.load(b, "angle 180 radius 2; pin 5 1 1 1;"));
            int[] counts = {180, 2, 0, 90, 0, 1, 1, 15, 25, 25, 0, 0, 0, 0, 8, 0};
            for (int what = 0; what < counts.length; what++) {
                is(counts[what], b.count(what));
            }
            is(0, b.chip(0, 5));
            is(NONE, b.chipAt(2, 0));
            is(0, b.chipAt(1, 1));
            fails(INDEX, () -> b.chip(1, 0));
            is(1, b.add(0, 1, 1, 0, 0));
            is(0, b.chip(1, 5));
        });
        test("no act can be undone then", () -> {
            KaleidoscopeBox b = new KaleidoscopeBox();
            b.turn(1);
            b.turn(1);
            Due.load(b, "angle 60 radius 3;");
            is(0, b.count(15));
            is(NONE, b.undo());
            is(0, b.count(2));
        });
        test("Accounts and saved states stay.", () -> {
            KaleidoscopeBox b = box("angle 90 radius 1; pin 1 1 1 1;");
            b.turn(1);
            b.tick();
            b.save(1);
            Due.load(b, "angle 60 radius 3;");
            is(1, b.account(0));
            is(1, b.account(5));
            b.restore(1);
            is(90, b.count(0));
            is(1, b.count(2));
            is(0, b.chipAt(1, 1));
            fails(STATE, () -> b.restore(0));
        });
        test("The text buffer is empty afterwards, also if there is an error.", () -> {
            for (String text : new String[] {"angle 60 radius 3;", "angle 61 radius 3;", "", "?"}) {
                KaleidoscopeBox b = new KaleidoscopeBox();
                Due.load(b, text);
                fails(ARGUMENT, () -> b.truncateText(1));
                is(0, b.truncateText(0));
                is(NONE, b.load());
                is(0, b.errorPosition());
            }
        });
        test("Returns the number of chips", () -> {
            KaleidoscopeBox b = new KaleidoscopeBox();
            is(0, Due.load(b, "angle 60 radius 3;"));
            is(1, Due.load(b, "angle 60 radius 3; pin 1 1 0 0;"));
            is(30, Due.load(b, pins(30)));
        });
    }

    private void loadOfErrors() {
        at("Promise 4");
        test("NONE if the text has an error (then nothing else changes)", () -> {
            String[] texts = {"", "angle 30 radius 6; down 5; keep 3; cover 1; pin 9 9 6 0; x", "angle 45 radius 2;;",
                "angle 60 radius 0;", pins(31)};
            for (String text : texts) {
                KaleidoscopeBox b = box("angle 90 radius 1; down 6; glass 1 1 0 1; bubble 2 2 1 0;");
                KaleidoscopeBox same = box("angle 90 radius 1; down 6; glass 1 1 0 1; bubble 2 2 1 0;");
                for (KaleidoscopeBox one : new KaleidoscopeBox[] {b, same}) {
                    one.save(0);
                    one.tick();
                    one.write();
                    one.take(1);
                    one.take(1);
                }
                is(NONE, Due.load(b, text));
                isText(Everything.butTexts(same), Everything.butTexts(b));
            }
        });
    }

    private void errorCode() {
        at("Promise 5");
        test("Returns the error code of the latest load(); 0 if its text had no error, or if there was no such call.", () -> {
            KaleidoscopeBox b = new KaleidoscopeBox();
            is(0, b.errorCode());
            Due.load(b, "angle 60 radius 9;");
            is(2, b.errorCode());
            is(2, b.errorCode());
            Due.load(b, "angle 60 radius 3; cover 0; cover 0;");
            is(3, b.errorCode());
            Due.put(b, "angle");
            is(3, b.errorCode());
            b.load();
            is(1, b.errorCode());
            Due.load(b, pins(31));
            is(4, b.errorCode());
            Due.load(b, "angle 60 radius 3;");
            is(0, b.errorCode());
        });
    }

    private void errorPosition() {
        at("Promise 6");
        test("Returns the error position of the latest load(); NONE if its text had no error, or if there was no such call.", () -> {
            KaleidoscopeBox b = new KaleidoscopeBox();
            is(NONE, b.errorPosition());
            b.load();
            is(0, b.errorPosition());
            Due.load(b, "angle 60 radius 9;");
            is(16, b.errorPosition());
            Due.put(b, "angle");
            is(16, b.errorPosition());
            b.load();
            is(5, b.errorPosition());
            Due.load(b, "angle 60 radius 3;");
            is(NONE, b.errorPosition());
        });
    }
}
