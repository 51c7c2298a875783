import java.util.ArrayList;
import java.util.List;

/** Edges that the terms of a drawing and promises 1 to 13 name, sentence by sentence. */
public final class DrawingEdgesTest {
    private static final Check C = new Check();
    private static final List<String> WAYS = List.of("east", "northeast", "north", "northwest", "west", "southwest", "south", "southeast");
    private static final int[] EAST = {1, 1, 0, -1, -1, -1, 0, 1};
    private static final int[] NORTH = {0, 1, 1, 1, 0, -1, -1, -1};
    private static final String FIVE = "turn(turn(turn(turn(turn(";

    private DrawingEdgesTest() {
    }

    public static void main(String[] args) {
        eachHoleAndWay();
        noWayRoundTheCloth();
        boundsOfNumbers();
        eachByte();
        digits();
        words();
        eachTokenInEachPlace();
        leastKind();
        firstAlongTheText();
        openAroundOneAnother();
        stepsThatCantBe();
        leastOfOneStep();
        anewEachTime();
        turnsModuloEight();
        linesThatAreThere();
        fullText();
        p1New();
        p2Feed();
        p3Drawing();
        p4Fault();
        p5To7Lines();
        p8Knots();
        p9And10Parts();
        p11Length();
        p12Crossings();
        p13Alike();
        C.end();
    }

    private static void faulty(String why, String text, int kind, int place) {
        BothSides x = new BothSides();
        int got = Check.draw(x, text);
        C.due(why + ": drawing of «" + text + "»", got < 0 ? got : 0, kind == 0 ? 0 : -10 - kind);
        C.due(why + ": fault of «" + text + "»", x.fault(0), kind);
        C.due(why + ": place in «" + text + "»", x.fault(1), place);
    }

    // ---- the cloth

    /** "HOLES 0 to 143: HOLE 12 y + x at x, y (0 to 11 each)", "5 a step leaves the CLOTH". */
    private static void eachHoleAndWay() {
        for (int hole = 0; hole < 144; hole++) {
            BothSides x = new BothSides();
            for (int way = 0; way < 8; way++) {
                String at = "at " + hole % 12 + " " + hole / 12 + ";";
                int toX = hole % 12 + EAST[way];
                int toY = hole / 12 + NORTH[way];
                boolean stays = toX >= 0 && toX <= 11 && toY >= 0 && toY <= 11;
                String what = at + WAYS.get(way);
                C.due(what, Check.draw(x, what + " 1;"), stays ? 1 : -15);
                C.due(what + " fault", x.fault(1), stays ? -1 : at.length());
                if (stays) {
                    C.due(what + " from", x.line(0, 0), hole);
                    C.due(what + " to", x.line(0, 1), 12 * toY + toX);
                    C.due(what + " is there", x.lineAt(hole, way), 0);
                    C.due(what + " is there from its other end", x.lineAt(12 * toY + toX, (way + 4) % 8), 0);
                }
            }
        }
    }

    /** No way leads from one border of the CLOTH to the other one. */
    private static void noWayRoundTheCloth() {
        BothSides x = Check.drawn("north 11;ink 1;east 11;ink 2;south 11;ink 3;west 11;");
        int[][] off = {{3, 4, 5}, {0, 1, 7}, {5, 6, 7}, {1, 2, 3}};
        for (int k = 0; k < 12; k++) {
            int[] border = {12 * k, 12 * k + 11, k, 132 + k};
            for (int side = 0; side < 4; side++) {
                for (int way : off[side]) {
                    C.due("off the cloth from " + border[side] + " by " + way, x.lineAt(border[side], way), -1);
                }
            }
        }
        C.due("lines round the border", x.count(0), 44);
        C.due("two ends at each hole of it", x.ends(11, -1) + x.ends(12, -1) + x.ends(23, -1) + x.ends(132, -1), 8);
    }

    // ---- the text

    private static void bounds(String before, String after, int least, int most) {
        String[] told = {"0", "1", "2", "3", "4", "9", "10", "11", "12", "13", "99", "100", "255", "256", "999",
            "000", "003", "011", "012"};
        for (String n : told) {
            int value = Integer.parseInt(n);
            BothSides x = new BothSides();
            int got = Check.draw(x, before + n + after);
            boolean outside = value < least || value > most;
            C.due("3 N is out of its bounds: " + before + n + after, got == -13, outside);
            C.due("place of N: " + before + n + after, !outside || x.fault(1) == before.length(), true);
        }
    }

    /** "x, y (0 to 11 each)", "ink 0 to 3", "how many steps (1 to 11)", "times 1 to 12". */
    private static void boundsOfNumbers() {
        bounds("at ", " 0;", 0, 11);
        bounds("at 11 ", ";", 0, 11);
        bounds("knot ", " 11;", 0, 11);
        bounds("knot 0 ", ";", 0, 11);
        bounds("ink ", ";", 0, 3);
        bounds("times ", "();", 1, 12);
        for (String way : WAYS) {
            bounds("at 0 0;" + way + " ", ";", 1, 11);
            bounds("at 11 11;" + way + " ", ";", 1, 11);
        }
        C.due("eleven steps", Check.draw(new BothSides(), "northeast 11;"), 11);
        C.due("one step", Check.draw(new BothSides(), "northeast 1;"), 1);
        C.due("eleven rounds", Check.draw(new BothSides(), "times 11(east 1;);"), 11);
        C.due("twelve rounds", Check.draw(new BothSides(), "times 12(east 1;west 1;north 1;south 1;);"), 2);
        C.due("twelve rounds of one step are one too many", Check.draw(new BothSides(), "times 12(east 1;);"), -15);
        C.due("one round", Check.draw(new BothSides(), "times 1(east 1;);"), 1);
    }

    /** "between them blanks (10, 32)", "words (small letters), N, the signs ; ( )", "1 no TOKEN begins so". */
    private static void eachByte() {
        for (int b = 0; b < 256; b++) {
            char c = (char) b;
            boolean blank = b == 10 || b == 32;
            boolean letter = c >= 'a' && c <= 'z';
            boolean digit = c >= '0' && c <= '9';
            boolean sign = c == ';' || c == '(' || c == ')';
            int kind = blank ? 0 : letter || digit || sign ? 2 : 1;
            faulty("byte " + b + " alone", "" + c, kind, blank ? -1 : 0);
            faulty("byte " + b + " behind", "east 1;" + c, kind, blank ? -1 : 7);
            if (blank) {
                faulty("byte " + b + " between", "east" + c + "1;", 0, -1);
            } else if (letter) {
                faulty("byte " + b + " between", "east" + c + "1;", 2, 0);
            } else if (digit) {
                faulty("byte " + b + " between", "east" + c + "1;", c > '1' ? 3 : 0, c > '1' ? 4 : -1);
            } else {
                faulty("byte " + b + " between", "east" + c + "1;", kind, 4);
            }
        }
    }

    /** "N (1 to 3 digits)", "4 digits and more: at their first". */
    private static void digits() {
        for (String n : new String[] {"1", "01", "001", "9", "09", "009", "11", "011"}) {
            faulty("digits", "east " + n + ";", 0, -1);
        }
        for (String n : new String[] {"0001", "1000", "0011", "00001", "2147483648", "4294967297",
            "00000000000000000000001", "99999999999999999999"}) {
            faulty("4 digits and more", "east " + n + ";", 1, 5);
            faulty("4 digits where none can stand", n, 1, 0);
            faulty("4 digits behind the last", "east 1 " + n + ";", 1, 7);
        }
        faulty("two numbers of three digits", "at 001 002;", 0, -1);
        faulty("six digits are no two numbers", "at 001002;", 1, 3);
        faulty("digits part from letters", "at1 1;east1;", 0, -1);
    }

    private static void words() {
        List<String> all = new ArrayList<>(WAYS);
        all.addAll(List.of("at", "ink", "knot", "times", "turn", "mirror"));
        for (String word : all) {
            String cut = word.substring(0, word.length() - 1);
            faulty("a word without its last letter", " " + cut + " 1;", 2, 1);
            faulty("a word without its first letter", " " + word.substring(1) + " 1;", 2, 1);
            faulty("a word and a letter more", " " + word + "s 1;", 2, 1);
            faulty("a letter more and a word", " s" + word + " 1;", 2, 1);
            faulty("another first letter", " z" + word.substring(1) + " 1;", 2, 1);
            faulty("another last letter", " " + cut + "z 1;", 2, 1);
            faulty("a word twice", " " + word + word + " 1;", 2, 1);
            faulty("a word in two", " " + word.charAt(0) + " " + word.substring(1) + " 1;", 2, 1);
            faulty("a great letter", " " + Character.toUpperCase(word.charAt(0)) + word.substring(1) + " 1;", 1, 1);
            faulty("a word and the end", " " + word, 2, word.length() + 1);
        }
    }

    /** "2 it can't stand there (the end: the text's length)": each sort of TOKEN behind each beginning. */
    private static void eachTokenInEachPlace() {
        String[][] places = {
            {"", "north", "END"}, {"east", "3"}, {"east 1", ";"}, {"east 1;", "north", "END"}, {"at", "3"}, {"at 1", "3"}, {"at 1 1", ";"},
            {"ink", "3"}, {"ink 1", ";"}, {"knot", "3"}, {"knot 1", "3"}, {"knot 1 1", ";"}, {"times", "3"}, {"times 2", "("},
            {"times 2 (", "north", ")"}, {"times 2 ( )", ";"}, {"times 2 ( ) ;", "north", "END"},
            {"turn", "("}, {"turn (", "north", ")"}, {"turn ( )", ";"},
            {"mirror", "("}, {"mirror (", "north", ")"}, {"mirror ( )", ";"}, {"mirror ( ) ;", "north", "END"}, {"turn ( east 1", ";"},
            {"turn ( east 1 ;", "north", ")"}, {"turn ( mirror ( )", ";"}, {"turn ( mirror ( ) ;", "north", ")"}};
        for (String[] place : places) {
            for (String token : new String[] {"north", "nort", "3", ";", "(", ")", "?", "0003", "END"}) {
                String text = place[0] + " " + (token.equals("END") ? "" : token);
                boolean fits = token.equals(place[1]) || place.length > 2 && token.equals(place[2]);
                boolean whole = token.equals("END") || token.equals(";") && !place[0].startsWith("turn ( ");
                whole |= token.equals(";") && place[0].equals("turn ( )");
                boolean strange = token.equals("?") || token.equals("0003");
                if (fits && whole) {
                    faulty("it can stand there", text, 0, -1);
                } else if (fits) {
                    faulty("the end", text, 2, text.length());
                } else {
                    faulty("it can't stand there", text, strange ? 1 : 2, place[0].length() + 1);
                }
            }
        }
    }

    /** "of one TOKEN the least kind". */
    private static void leastKind() {
        faulty("1 ahead of 3", "ink 0009;", 1, 4);
        faulty("1 ahead of 2", "ink 1 1000;", 1, 6);
        faulty("1 ahead of 2", "ink ?;", 1, 4);
        faulty("2 ahead of 3", "ink 1 999;", 2, 6);
        faulty("2 ahead of 3", "turn 999(", 2, 5);
        faulty("2 ahead of 4", FIVE + "(", 2, 25);
        faulty("2 ahead of 4", FIVE + "times(", 2, 30);
        faulty("2 ahead of 4", FIVE + "times 2;(", 2, 32);
    }

    /** "the first along the text", and those of the TEXT ahead of those of what is drawn. */
    private static void firstAlongTheText() {
        String[] wrong = {" ?", " ;", " ink 9;", " " + FIVE + "turn("};
        int[] place = {1, 1, 5, 30};
        for (int one = 0; one < 4; one++) {
            for (int other = 0; other < 4; other++) {
                faulty("the first along the text", wrong[one] + wrong[other], one + 1, place[one]);
            }
            faulty("ahead of a step that leaves the cloth", "west 1;" + wrong[one], one + 1, 7 + place[one]);
            faulty("ahead of a 61st line", Texts.ROWS + "east 1;" + wrong[one], one + 1, Texts.ROWS.length() + 7 + place[one]);
            faulty("ahead of too many steps", "times 12(times 12(east 5;west 5;););" + wrong[one], one + 1, 36 + place[one]);
        }
        faulty("ahead of the end", "east ?", 1, 5);
        faulty("the end alone", "east ", 2, 5);
    }

    /** "4 the 6th ( that is open around one another". */
    private static void openAroundOneAnother() {
        for (String word : new String[] {"times 1 ", "turn", "mirror"}) {
            String open = "";
            String close = "";
            for (int k = 1; k <= 7; k++) {
                open += word + "(";
                close += ");";
                int sixth = 6 * (word.length() + 1) - 1;
                faulty(k + " around one another", open + close, k < 6 ? 0 : 4, k < 6 ? -1 : sixth);
            }
            String besides = "";
            for (int k = 0; k < 7; k++) {
                besides += word + "();";
            }
            faulty("seven besides one another", besides, 0, -1);
            faulty("seven besides one another in four", "turn(turn(turn(turn(" + besides + "););););", 0, -1);
            String closed = FIVE + "););" + word + "(" + word + "(";
            faulty("five again, where two are closed", closed, 2, closed.length());
            faulty("a sixth again", closed + word + "(", 4, closed.length() + word.length());
        }
        faulty("the sixth behind others", "turn();times 2(mirror(););" + FIVE + "ink 1;mirror(", 4, 26 + 25 + 6 + 6);
        BothSides x = new BothSides();
        Check.draw(x, FIVE);
        C.due("what was open in a faulty text is not", Check.draw(x, FIVE + "););););); "), 0);
        Check.draw(x, "turn(");
        C.due("nothing can be closed behind a faulty text", Check.draw(x, "east 1;);"), -12);
        C.due("nor there", x.fault(1), 7);
        Check.draw(x, "turn(");
        C.due("the end is the end behind a faulty text", Check.draw(x, "east 1;"), 1);
    }

    // ---- drawn

    /** "Without these the DRAWING is drawn, and the first that can't be, at the word of its WAY". */
    private static void stepsThatCantBe() {
        faulty("eleven steps stay", "east 11;north 11;west 11;south 11;", 0, -1);
        faulty("the last of eleven leaves", "east 1; east 11;", 5, 8);
        faulty("the first as it is drawn, in the third round", "times 3(east 5;north 1;);west 11;", 5, 8);
        faulty("the first as it is drawn, not along the text", "at 0 3;times 4( south 1;times 1(east 1;););", 5, 16);
        faulty("within a repeat, behind blanks", "times 2 (\n  times 12 (\n    east \n 1 ; ) ; ) ;", 5, 27);
        faulty("sixty", Texts.ROWS, 0, -1);
        faulty("a 61st", Texts.ROWS + " at 5 5; north 1;", 6, Texts.ROWS.length() + 9);
        faulty("the 61st is the second step", "times 5(east 11;west 11;north 1;);at 0 4;north 1;north 1;", 6, 49);
        faulty("lines that are there are no more", Texts.ROWS + "at 0 0;east 11;west 11;north 5;", 0, -1);
        faulty("fifty-nine and two", "times 4(east 11;west 11;north 1;);east 11;north 2;", 6, 42);
        faulty("a thousand steps", "times 10(times 10(east 5;west 5;););", 0, -1);
        faulty("a thousand and one", "times 10(times 10(east 5;west 5;);); east 1;", 7, 37);
        faulty("a thousand and one by one word", "times 10(times 9(east 5;west 5;););times 10(north 5;south 5;);north 1;", 7, 62);
        faulty("the last of eleven is one too many", "times 9(times 11(east 5;west 5;););east 10;", 0, -1);
        faulty("the last of eleven is one too many", "times 9(times 11(east 5;west 5;););east 11;", 7, 35);
    }

    /** "(of one step the least)". */
    private static void leastOfOneStep() {
        String steps = "times 11(times 8(east 5;west 5;););";
        String full = Texts.ROWS + "at 0 0;" + steps + "east 5;";
        faulty("neither", full, 0, -1);
        faulty("5 ahead of 6", Texts.ROWS + "at 11 0;east 1;", 5, 42);
        faulty("5 ahead of 7", "times 10(times 10(east 5;west 5;););west 1;", 5, 36);
        faulty("6 ahead of 7", full + "at 0 5;east 1;", 6, full.length() + 7);
        faulty("5 ahead of 6 and 7", full + "at 11 5;east 1;", 5, full.length() + 8);
        faulty("7 alone", full + "at 0 1;east 1;", 7, full.length() + 7);
    }

    /** "0, 0 at first", "none at first": nothing of an earlier text is left over. */
    private static void anewEachTime() {
        String[] earlier = {"at 5 5;ink 2;knot 3 3;east 3;", "at 5 5;ink 2;knot 3 3;east 3;south 6;", "at 5 5;ink 2;knot 3 3;east 3;?",
            "knot 3 3;ink 3;" + Texts.ROWS + "east 1;", "knot 3 3;ink 3;times 12(times 12(east 5;west 5;););"};
        for (String text : earlier) {
            BothSides x = new BothSides();
            Check.draw(x, text);
            C.due("a line behind " + text, Check.draw(x, "north 1;"), 1);
            C.due("from 0, 0 behind " + text, x.line(0, 0), 0);
            C.due("of ink 0 behind " + text, x.line(0, 2), 0);
            C.due("no knots behind " + text, x.count(1), 0);
            C.due("no knot behind " + text, x.knot(0), -1);
            C.due("no ends behind " + text, x.ends(65, -1) + x.ends(66, 2) + x.ends(1, 0) + x.ends(1, 3), 0);
            C.due("no lines by ways behind " + text, x.lineAt(65, 0) + x.lineAt(66, 4) + x.lineAt(0, 0) + x.lineAt(1, 4), -4);
            C.due("no parts behind " + text, x.parts(2) + x.parts(3), 0);
            C.due("nothing far away behind " + text, x.threads(2, 1) + x.threads(3, 1), 0);
            C.due("any holes behind " + text, x.threads(0, 1), 2);
            C.due("it is as if alone behind " + text, x.alike(1) && x.alike(2) && x.alike(3) && !x.alike(0), true);
            C.due("an empty text behind " + text, x.drawing(0), 0);
            C.due("bare behind " + text, x.ends(0, -1) + x.ends(12, 0) + x.length(-1), 0);
        }
    }

    /** "turn: in it each WAY is 2 more (modulo 8), mirror: 8 less it (modulo 8), then as what is around it says". */
    private static void turnsModuloEight() {
        for (int way = 0; way < 8; way++) {
            String go = WAYS.get(way) + " 1;";
            String nest = go;
            for (int turns = 1; turns <= 5; turns++) {
                nest = "turn(" + nest + ");";
                leads(nest, (way + 2 * turns) % 8);
                if (turns < 5) {
                    leads("mirror(" + nest + ");", (16 - (way + 2 * turns) % 8) % 8);
                }
            }
            nest = go;
            for (int mirrors = 1; mirrors <= 5; mirrors++) {
                nest = "mirror(" + nest + ");";
                leads(nest, mirrors % 2 == 0 ? way : (8 - way) % 8);
                if (mirrors < 5) {
                    leads("turn(" + nest + ");", ((mirrors % 2 == 0 ? way : 8 - way) + 2) % 8);
                }
            }
            leads("times 1(" + go + ");", way);
            leads("turn();" + go, way);
            leads("mirror(turn(););" + go, way);
        }
    }

    private static void leads(String text, int way) {
        BothSides x = Check.drawn("at 5 5;" + text);
        C.due(text, x.line(0, 1), 65 + EAST[way] + 12 * NORTH[way]);
    }

    /** "each draws a LINE of the INK, if there is none there, and the pen is at its end". */
    private static void linesThatAreThere() {
        BothSides x = Check.drawn("ink 1;east 3;ink 2;west 3;north 1;");
        C.due("none is drawn twice", x.count(0), 4);
        C.due("the pen is at its end all the same", x.line(3, 0), 0);
        C.due("the old ink stays", x.line(2, 2), 1);
        C.due("the hole from which it was drawn stays", x.line(2, 0), 2);
        C.due("the new ink", x.line(3, 2), 2);
        x = Check.drawn("at 4 4;knot 7 7;east 1;knot 9 9;east 1;");
        C.due("a knot moves no pen", x.line(1, 1), 54);
        x = Check.drawn("times 3(ink 1;east 1;ink 0;);north 1;");
        C.due("ink in each round", x.line(0, 2) + x.line(1, 2) + x.line(2, 2), 3);
        C.due("ink behind them", x.line(3, 2), 0);
    }

    /** "A DRAWING is a TEXT of at most 700 bytes". */
    private static void fullText() {
        String text = " ".repeat(693) + "east 1;";
        faulty("700 bytes", text, 0, -1);
        faulty("700 bytes, the last is wrong", text.substring(0, 699) + "?", 1, 699);
        faulty("the end of 699 bytes", text.substring(0, 699), 2, 699);
        faulty("the end of 700 bytes", " " + text.substring(0, 699), 2, 700);
        faulty("700 blanks", "\n ".repeat(350), 0, -1);
        faulty("as many statements as go", "ink0;".repeat(140), 0, -1);
        BothSides x = new BothSides();
        C.due("as many statements as go, and a line", Check.draw(x, "ink3;".repeat(138) + "east 2;   "), 2);
        C.due("in their ink", x.line(1, 2), 3);
    }

    // ---- promises

    /** "No DRAWING, no THREAD; TRAYS are MISSING; an empty tape." */
    private static void p1New() {
        for (Reading.Call call : Reading.asked()) {
            String got = Reading.answer(new BothSides(), call);
            String due = switch (call.name()) {
                case "line", "partOf" -> Check.NO_SUCH;
                case "done", "thread", "judge", "left", "barred", "ending", "ways", "working", "unpicked", "sameAt" -> Check.STATE;
                case "lineAt", "knot" -> "-1";
                case "fault" -> call.args()[0].equals(0) ? "0" : "-1";
                case "may" -> "1";
                case "alike", "same" -> "true";
                case "places" -> "288";
                default -> "0";
            };
            C.due("p1 " + call.told(), got, due);
        }
        for (int k = 0; k < 4; k++) {
            C.due("p1 a tray is missing", Reading.answer(new BothSides(), "write", k, 0, 0L), Check.STATE);
            C.due("p1 places", Reading.answer(new BothSides(), "places", k), "288");
        }
        for (int k = 0; k < 3; k++) {
            C.due("p1 no image", Reading.answer(new BothSides(), "restore", k), Check.STATE);
        }
        C.due("p1 nothing to draw from", new BothSides().drawing(0), 0);
        C.due("p1 nothing on the tape", Reading.answer(new BothSides(), "drawing", 1), Check.WRONG);
    }

    /** "the highest of each int first", "NONE, and nothing changes, if there would be more than 700". */
    private static void p2Feed() {
        for (int k = 0; k < 20; k++) {
            for (int b : new int[] {0, 127, 128, 255}) {
                int[] v = {0x20202020, 0x20202020, 0x20202020, 0x20202020, 0x20202020};
                v[k / 4] = v[k / 4] & ~(255 << 24 - k % 4 * 8) | b << 24 - k % 4 * 8;
                BothSides x = new BothSides();
                C.due("p2 how many", x.feed(v[0], v[1], v[2], v[3], v[4]), 20);
                C.due("p2 byte " + b, x.drawing(20), -11);
                C.due("p2 its place " + k, x.fault(1), k);
            }
        }
        BothSides x = new BothSides();
        for (int k = 1; k < 35; k++) {
            C.due("p2 behind those on the tape", x.feed(0x20202020, 0x20202020, 0x20202020, 0x20202020, 0x20202020), 20 * k);
        }
        C.due("p2 seven hundred", x.feed(0x65617374, 0x20313b20, 0x20202020, 0x6e6f7274, 0x6820313b), 700);
        for (int k = 0; k < 3; k++) {
            C.due("p2 one more", x.feed(-1, -1, -1, -1, -1), -1);
            C.due("p2 nothing changes", x.count(4), 700);
        }
        C.due("p2 nor any byte", x.drawing(700), 2);
        C.due("p2 the tape takes others then", x.feed(0x65617374, 0x20333b20, 0x20202020, 0x20202020, 0x20202020), 20);
        C.due("p2 which are ahead", x.drawing(20), 3);
    }

    /** "The first n bytes of the tape (which is empty then) are the DRAWING". */
    private static void p3Drawing() {
        String text = "east 1;north 2;at 9 9;";
        for (int n = 0; n <= text.length(); n++) {
            BothSides x = Check.drawn("at 4 4;southwest 2;");
            x.begin(52, 0, true);
            Check.feed(x, text);
            boolean whole = n == 0 || n == 7 || n == 15 || n == 22;
            C.due("p3 the first " + n, x.drawing(n), whole ? n == 0 ? 0 : n == 7 ? 1 : 3 : -12);
            C.due("p3 lines then", x.count(0), whole ? n == 0 ? 0 : n == 7 ? 1 : 3 : 2);
            C.due("p3 the end's place", x.fault(1), whole ? -1 : n >= 4 && n <= 6 ? n : x.fault(1));
            C.due("p3 the rest is off the tape too", x.count(4), 0);
            C.due("p3 no thread then, or the old one", Reading.answer(x, "left"), whole ? Check.STATE : "4");
        }
        BothSides x = Check.drawn(Texts.SQUARE);
        x.begin(0, 0, true);
        Check.sew(x, "02");
        x.begin(0, 0, false);
        Check.sew(x, "0");
        C.due("p3 worked over and under", x.seen(true) * 10 + x.seen(false), 12);
        Check.draw(x, Texts.SQUARE);
        C.due("p3 nothing is worked over", x.seen(true), 0);
        C.due("p3 nothing is worked under", x.seen(false), 0);
        C.due("p3 nor both", x.count(3) + x.line(0, 3) + x.line(1, 3), 0);
        C.due("p3 no thread was cut", x.count(2), 0);
        C.due("p3 none is there", x.may(0), 1);
        x.begin(0, 0, true);
        C.due("p3 none was cut by the first", x.count(2), 0);
    }

    /** "Of the latest drawing() that threw nothing"; "(NONE without)". */
    private static void p4Fault() {
        BothSides x = new BothSides();
        Check.draw(x, "  ?");
        C.due("p4 a fault", x.fault(0) * 10 + x.fault(1), 12);
        Check.feed(x, "");
        C.due("p4 refused", Reading.answer(x, "drawing", 1), Check.WRONG);
        C.due("p4 the fault is of the one before", x.fault(0) * 10 + x.fault(1), 12);
        Check.draw(x, "ink 7;");
        C.due("p4 another one", x.fault(0) * 10 + x.fault(1), 34);
        Check.draw(x, "west 1;");
        C.due("p4 at 0", x.fault(0) * 10 + x.fault(1), 50);
        Check.draw(x, "east 1;");
        C.due("p4 without", x.fault(0), 0);
        C.due("p4 no place without", x.fault(1), -1);
        Check.draw(x, "east");
        x.drawing(0);
        C.due("p4 without, of an empty one", x.fault(0), 0);
        C.due("p4 no place without, of an empty one", x.fault(1), -1);
    }

    /** Sixty LINES, each told by itself and from each HOLE; a HOLE with eight; HOLES without. */
    private static void p5To7Lines() {
        for (int row = 0; row < 12; row++) {
            BothSides x = Check.drawn("ink 3;" + Texts.ROWS.replace("north", "ink 1;north"));
            for (int hole = 12 * row; hole < 12 * row + 12; hole++) {
                int ends = 0;
                for (int way = 0; way < 8; way++) {
                    int column = hole % 12;
                    boolean there = way == 0 && column < 11 && row < 5 || way == 4 && column > 0 && row < 5
                        || way == 2 && column == 0 && row < 5 || way == 6 && column == 0 && row > 0 && row < 6;
                    int line = x.lineAt(hole, way);
                    C.due("p6 at " + hole + " by " + way, line != -1, there);
                    ends += there ? 1 : 0;
                    C.due("p6 an end of it", !there || x.line(line, 0) == hole || x.line(line, 1) == hole, true);
                }
                C.due("p7 of all at " + hole, x.ends(hole, -1), ends);
            }
        }
        BothSides x = Check.drawn(Texts.ROWS);
        C.due("p5 the last of sixty", x.line(59, 1), 60);
        C.due("p5 the first of sixty", x.line(0, 1), 1);
        BothSides star = Check.drawn(Texts.STAR);
        C.due("p7 eight at a hole", star.ends(65, -1), 8);
        C.due("p7 eight of the ink", star.ends(65, 0), 8);
        C.due("p7 one at each ray's end", star.ends(66, 0) + star.ends(78, -1), 2);
        C.due("p7 none of another ink", star.ends(65, 3), 0);
    }

    /** "The k-th KNOT, from 0 on, by HOLES; NONE." */
    private static void p8Knots() {
        StringBuilder text = new StringBuilder();
        for (int k = 11; k >= 0; k--) {
            text.append("knot ").append(k).append(" 0;knot ").append(k).append(" 11;knot 5 5;");
        }
        BothSides x = Check.drawn(text.toString());
        C.due("p8 each once", x.count(1), 25);
        for (int k = 0; k < 25; k++) {
            C.due("p8 by holes " + k, x.knot(k), k < 12 ? k : k == 12 ? 65 : 132 + k - 13);
        }
        C.due("p8 behind the last", x.knot(25), -1);
        C.due("p8 below the first", x.knot(-1), -1);
    }

    private static void p9And10Parts() {
        BothSides ring = Check.drawn("east 3;at 0 1;east 3;at 0 0;north 1;");
        C.due("p9 joined by the last line", ring.parts(0), 1);
        C.due("p10 to the first", ring.partOf(3) * 10 + ring.partOf(6), 0);
        BothSides apart = Check.drawn("east 1;at 2 0;east 1;at 4 0;east 1;ink 1;at 1 0;east 1;at 3 0;east 1;");
        C.due("p9 another ink joins none", apart.parts(0), 3);
        C.due("p9 nor these", apart.parts(1), 2);
        int[] due = {0, 1, 2, 3, 4};
        for (int line = 0; line < 5; line++) {
            C.due("p10 each alone " + line, apart.partOf(line), due[line]);
        }
        StringBuilder text = new StringBuilder();
        for (int k = 0; k < 30; k++) {
            text.append("at ").append(k % 6 * 2).append(' ').append(k / 6 * 2).append(";east 1;");
        }
        BothSides many = Check.drawn(text.toString());
        C.due("p9 thirty parts", many.parts(0), 30);
        C.due("p10 the thirtieth", many.partOf(29), 29);
        C.due("p9 by a slant", Check.drawn("east 1;northeast 1;north 1;").parts(0), 1);
        C.due("p9 one part of sixty lines", Check.drawn(Texts.ROWS).parts(0), 1);
        C.due("p9 of each ink by itself", Check.drawn("east 1;ink 1;west 1;").parts(1), 0);
    }

    private static void p11Length() {
        BothSides rows = Check.drawn(Texts.ROWS);
        C.due("p11 sixty straight ones", rows.length(0), 1200);
        C.due("p11 of all", rows.length(-1), 1200);
        C.due("p11 of an ink without lines", rows.length(1) + rows.length(2) + rows.length(3), 0);
        for (int way = 0; way < 8; way++) {
            C.due("p11 by " + WAYS.get(way), Check.drawn("at 5 5;" + WAYS.get(way) + " 1;").length(0), way % 2 == 0 ? 20 : 28);
        }
        rows.begin(0, 0, true);
        rows.work();
        C.due("p11 what is worked counts, too", rows.length(0), 1200);
    }

    /** In each corner of the CLOTH; "of LINES of unlike INKS alone". */
    private static void p12Crossings() {
        for (int y = 0; y < 11; y += 10) {
            for (int x = 0; x < 11; x += 10) {
                String one = "at " + x + " " + y + ";northeast 1;";
                String other = "at " + (x + 1) + " " + y + ";northwest 1;";
                C.due("p12 of one ink", Check.drawn(one + other).crossings(false), 1);
                C.due("p12 none of unlike inks", Check.drawn(one + other).crossings(true), 0);
                C.due("p12 of two inks", Check.drawn(one + "ink 3;" + other).crossings(true), 1);
                C.due("p12 of any", Check.drawn(one + "ink 3;" + other).crossings(false), 1);
                C.due("p12 one alone", Check.drawn(one).crossings(false) + Check.drawn(other).crossings(false), 0);
            }
        }
        C.due("p12 not round the cloth", Check.drawn("at 11 4;northwest 1;at 0 3;northeast 1;at 0 5;northeast 1;").crossings(false), 0);
        C.due("p12 across the same square alone", Check.drawn("northeast 3;at 3 0;northwest 1;at 1 2;northwest 1;").crossings(false), 0);
        BothSides three = Check.drawn("northeast 3;at 1 0;northwest 1;at 2 1;northwest 1;at 3 2;northwest 1;");
        C.due("p12 each of three squares", three.crossings(false), 3);
        C.due("p12 none on the bare cloth", new BothSides().crossings(true), 0);
    }

    /** "if so changed, and pushed to where it was, it has the same LINES with the same INKS": in each corner alike. */
    private static void p13Alike() {
        String[] shapes = {"northeast 1;", "northwest 1;", "east 2;", "north 2;", Texts.SQUARE, "east 1;north 1;", "east 1;ink 1;east 1;"};
        boolean[][] due = {{false, true, false, false}, {false, true, false, false}, {false, true, true, true}, {false, true, true, true},
            {true, true, true, true}, {false, false, false, false}, {false, false, false, true}};
        for (int k = 0; k < shapes.length; k++) {
            for (int[] at : new int[][] {{2, 0}, {9, 0}, {2, 9}, {9, 9}, {5, 5}}) {
                BothSides x = Check.drawn("at " + at[0] + " " + at[1] + ";" + shapes[k]);
                for (int by = 0; by < 4; by++) {
                    C.due("p13 " + shapes[k] + " at " + at[0] + " " + at[1] + " by " + by, x.alike(by), due[k][by]);
                }
            }
        }
        // turned, they would lead off the cloth
        for (int k = 0; k < 11; k++) {
            String[] border = {"at " + k + " 11;east 1;", "at " + k + " 0;east 1;", "at 11 " + k + ";north 1;", "at 0 " + k + ";north 1;"};
            for (String line : border) {
                BothSides x = Check.drawn(line);
                C.due("p13 along the border by a quarter turn: " + line, x.alike(0), false);
                C.due("p13 along the border by others: " + line, x.alike(1) && x.alike(2) && x.alike(3), true);
            }
        }
        BothSides wide = Check.drawn("at 0 5;east 11;");
        C.due("p13 as wide as the cloth, by a quarter turn", wide.alike(0), false);
        C.due("p13 by a half one", wide.alike(1) && wide.alike(2) && wide.alike(3), true);
        BothSides rim = Check.drawn("east 11;north 11;west 11;south 11;");
        C.due("p13 round the cloth", rim.alike(0) && rim.alike(1) && rim.alike(2) && rim.alike(3), true);
        BothSides two = Check.drawn("east 1;at 10 11;ink 1;east 1;");
        C.due("p13 the same lines, not the same inks", two.alike(1), false);
        BothSides knots = Check.drawn("knot 0 0;knot 3 9;knot 6 6;at 5 5;" + Texts.SQUARE);
        C.due("p13 knots don't count", knots.alike(0) && knots.alike(1) && knots.alike(2) && knots.alike(3), true);
    }
}
