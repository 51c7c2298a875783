/** Edges that the terms of faces, TRAYS and IMAGES and promises 32 to 40 name, sentence by sentence. */
public final class FacesEdgesTest {
    private static final Check C = new Check();

    private FacesEdgesTest() {
    }

    public static void main(String[] args) {
        p32Seen();
        p33Same();
        p34NoStitches();
        p34All();
        p34WhatElseIsWorked();
        p35Unlike();
        p36Bounds();
        p36Anew();
        p37Bounds();
        p37CutToItsSort();
        p37TraysApart();
        p38AnImageEach();
        p39AllIsAsInIt();
        p39NotTapeFaultTrays();
        p39OfNothing();
        p40Count();
        fiveHundredAndTwelve();
        C.end();
    }

    // ---- faces

    private static void p32Seen() {
        BothSides x = new BothSides();
        C.due("p32 none, over", x.seen(true), 0);
        C.due("p32 none, under", x.seen(false), 0);
        Check.draw(x, Texts.ROWS);
        C.due("p32 nothing is worked", x.seen(true) + x.seen(false), 0);
        x.begin(0, 0, true);
        x.work();
        C.due("p32 sixty over", x.seen(true), 60);
        C.due("p32 sixty under", x.seen(false), 60);
        x.unpick(1);
        C.due("p32 the last was under", x.seen(false), 59);
        C.due("p32 over stay", x.seen(true), 60);
        BothSides y = Check.drawn("east 1;ink 1;east 1;ink 2;east 1;ink 3;east 1;");
        Check.work(y, true, 0, 1, 2, 3);
        Check.work(y, false, 3);
        C.due("p32 of all inks, over", y.seen(true), 4);
        C.due("p32 of all inks, under", y.seen(false), 1);
    }

    /** "if each LINE of all INKS is worked OVER just if it is UNDER". */
    private static void p33Same() {
        C.due("p33 no lines", new BothSides().same(), true);
        BothSides x = Check.drawn("east 1;ink 3;east 1;");
        C.due("p33 nothing is worked", x.same(), true);
        Check.work(x, true, 1);
        C.due("p33 over alone", x.same(), false);
        Check.work(x, false, 0);
        C.due("p33 one over, the other one under", x.same(), false);
        Check.work(x, false, 1);
        C.due("p33 under alone", x.same(), false);
        Check.work(x, true, 0);
        C.due("p33 both on both", x.same(), true);
        BothSides rows = Check.drawn(Texts.ROWS);
        rows.begin(0, 0, true);
        rows.work();
        C.due("p33 sixty on both", rows.same(), true);
        rows.unpick(1);
        C.due("p33 the sixtieth is not", rows.same(), false);
    }

    /** "The k-th number n of STITCHES of the THREAD (0 up to all)". */
    private static void p34NoStitches() {
        BothSides x = new BothSides();
        x.begin(5, 0, true);
        C.due("p34 0 is one", x.sameAt(0), 0);
        C.due("p34 the only one", x.sameAt(1), -1);
        C.due("p34 below the first", x.sameAt(-1), -1);
        x.cut();
        C.due("p34 no thread", Reading.answer(x, "sameAt", 0), Check.STATE);
    }

    private static void p34All() {
        BothSides x = Check.drawn(Texts.STAR);
        x.begin(65, 0, true);
        C.due("p34 all ways there and back", Check.sew(x, "0415263740516273"), 16);
        for (int k = 0; k <= 8; k++) {
            C.due("p34 behind each ray " + k, x.sameAt(k), 2 * k);
        }
        C.due("p34 behind all there is no more", x.sameAt(9), -1);
        x.unpick(1);
        C.due("p34 behind all but the last", x.sameAt(7), 14);
        C.due("p34 not behind the last then", x.sameAt(8), -1);
        BothSides rows = Check.drawn(Texts.ROWS);
        rows.begin(0, 0, true);
        rows.work();
        int many = 0;
        while (many < 200 && rows.sameAt(many) != -1) {
            many++;
        }
        C.due("p34 the last is behind all of 120", rows.sameAt(many - 1), 120);
        C.due("p34 the first is behind none", rows.sameAt(0), 0);
    }

    /** "(what else is worked as it is now)": by other THREADS, before it or in another INK. */
    private static void p34WhatElseIsWorked() {
        BothSides x = Check.drawn("east 2;ink 1;north 1;");
        Check.work(x, true, 0);
        x.begin(1, 0, false);
        C.due("p34 not with what else is worked", x.sameAt(0), -1);
        Check.sew(x, "4");
        C.due("p34 made good by its first", x.sameAt(0), 1);
        C.due("p34 and not at 0", x.sameAt(1), -1);
        x.cut();
        Check.work(x, false, 2);
        x.begin(1, 0, true);
        Check.sew(x, "04");
        C.due("p34 spoilt by another ink", x.sameAt(0), -1);
        x.cut();
        Check.work(x, true, 2);
        x.begin(1, 0, false);
        C.due("p34 all is alike now", x.sameAt(0), 0);
    }

    private static void p35Unlike() {
        BothSides x = Check.drawn(Texts.STAR);
        C.due("p35 nothing is worked", x.unlike(65), 0);
        for (int line = 0; line < 8; line++) {
            Check.work(x, line % 2 == 0, line);
            C.due("p35 on one face or on the other one " + line, x.unlike(65), line + 1);
            C.due("p35 at its other end " + line, x.unlike(x.line(line, 1)), 1);
        }
        for (int line = 0; line < 8; line++) {
            Check.work(x, line % 2 == 1, line);
            C.due("p35 on both no more " + line, x.unlike(65), 7 - line);
            C.due("p35 nor at its other end " + line, x.unlike(x.line(line, 1)), 0);
        }
        C.due("p35 the first hole", x.unlike(0), 0);
        C.due("p35 the last hole", x.unlike(143), 0);
        C.due("p35 none behind it", Reading.answer(x, "unlike", 144), Check.NO_SUCH);
        C.due("p35 none before it", Reading.answer(x, "unlike", -1), Check.NO_SUCH);
        BothSides corner = Check.drawn("at 11 11;west 1;ink 2;at 11 11;south 1;");
        Check.work(corner, true, 0);
        Check.work(corner, false, 1);
        C.due("p35 of all inks, at the last hole", corner.unlike(143), 2);
    }

    // ---- trays

    /** "TRAYS 0 to 3", "rows of 0 to 40 numbers", "sort 0 .. 3". */
    private static void p36Bounds() {
        for (int tray = -1; tray <= 4; tray++) {
            for (int sort = -1; sort <= 4; sort++) {
                for (int many : new int[] {-1, 0, 1, 39, 40, 41}) {
                    BothSides x = new BothSides();
                    boolean isTray = tray >= 0 && tray <= 3;
                    boolean good = sort >= 0 && sort <= 3 && many >= 0 && many <= 40;
                    String what = "p36 tray " + tray + ", sort " + sort + ", many " + many;
                    C.due(what, Reading.answer(x, "tray", tray, sort, many), !isTray ? Check.NO_SUCH : good ? "null" : Check.WRONG);
                    if (isTray && good) {
                        C.due(what + ": its last place", Reading.answer(x, "write", tray, many - 1, 7L), many == 0 ? Check.OUTSIDE : "7");
                        C.due(what + ": none behind it", Reading.answer(x, "write", tray, many, 7L), Check.OUTSIDE);
                    } else if (isTray) {
                        C.due(what + ": still missing", Reading.answer(x, "write", tray, 0, 7L), Check.STATE);
                    }
                }
            }
        }
    }

    /** "A TRAY is a row of so many 0s": when it is laid again, too. */
    private static void p36Anew() {
        BothSides x = Check.drawn("east 3;");
        x.begin(0, 0, true);
        x.tray(0, 0, 3);
        C.due("p36 three 0s", x.judge(0, 0) * 100 + x.judge(0, 2), -97);
        for (int place = 0; place < 3; place++) {
            x.write(0, place, 7);
        }
        C.due("p36 7s", x.judge(0, 0), 0);
        x.tray(0, 3, 3);
        C.due("p36 0s again", x.judge(0, 0) * 100 + x.judge(0, 2), -97);
        x.write(0, 2, 7);
        x.tray(0, 0, 2);
        C.due("p36 a shorter row", x.judge(0, 2), 2);
        x.tray(0, 0, 4);
        C.due("p36 a longer row of 0s", x.judge(0, 0), 3);
        x.tray(0, 0, 0);
        C.due("p36 an empty row", x.judge(0, 0) * 100 + x.judge(0, 2), -100);
        C.due("p36 is there", Reading.answer(x, "perform", 0), "0");
    }

    private static void p37Bounds() {
        for (int many : new int[] {0, 1, 2, 40}) {
            BothSides x = new BothSides();
            C.due("p37 missing", Reading.answer(x, "write", 2, 0, 1L), Check.STATE);
            C.due("p37 missing, wherever", Reading.answer(x, "write", 2, many, 1L), Check.STATE);
            x.tray(2, 3, many);
            for (int place : new int[] {Integer.MIN_VALUE, -2, -1, 0, 1, 2, 39, 40, 41, Integer.MAX_VALUE}) {
                boolean there = place >= 0 && place < many;
                C.due("p37 place " + place + " of " + many, Reading.answer(x, "write", 2, place, 5L), there ? "5" : Check.OUTSIDE);
            }
            C.due("p37 tray -1", Reading.answer(x, "write", -1, 0, 5L), Check.NO_SUCH);
            C.due("p37 tray 4", Reading.answer(x, "write", 4, 0, 5L), Check.NO_SUCH);
            C.due("p37 another tray is missing", Reading.answer(x, "write", 3, 0, 5L), Check.STATE);
        }
    }

    /** "cut to its sort: as it is there": 8, 16, 32, 64 bits. */
    private static void p37CutToItsSort() {
        BothSides x = new BothSides();
        for (int sort = 0; sort < 4; sort++) {
            x.tray(sort, sort, 2);
            int bits = 8 << sort;
            long most = sort == 3 ? Long.MAX_VALUE : (1L << bits - 1) - 1;
            C.due("p37 0 of " + bits, x.write(sort, 0, 0), 0);
            C.due("p37 -1 of " + bits, x.write(sort, 0, -1), -1);
            C.due("p37 the most of " + bits, x.write(sort, 0, most), most);
            C.due("p37 one more of " + bits, x.write(sort, 0, most + 1), -most - 1);
            C.due("p37 the least of " + bits, x.write(sort, 1, -most - 1), -most - 1);
            C.due("p37 one less of " + bits, x.write(sort, 1, -most - 2), most);
            C.due("p37 all bits but the highest of 64, of " + bits, x.write(sort, 1, Long.MAX_VALUE), sort == 3 ? Long.MAX_VALUE : -1);
            C.due("p37 the highest of 64, of " + bits, x.write(sort, 1, Long.MIN_VALUE), sort == 3 ? Long.MIN_VALUE : 0);
            C.due("p37 as many as there are, of " + bits, x.write(sort, 1, 2 * most + 2), 0);
            C.due("p37 one more than there are, of " + bits, x.write(sort, 1, 2 * most + 3), 1);
        }
        C.due("p37 128 of 8", x.write(0, 0, 128), -128);
        C.due("p37 255 of 8", x.write(0, 0, 255), -1);
        C.due("p37 256 of 8", x.write(0, 0, 256), 0);
        C.due("p37 32768 of 16", x.write(1, 0, 32768), -32768);
        C.due("p37 65535 of 16", x.write(1, 0, 65535), -1);
        C.due("p37 2147483648 of 32", x.write(2, 0, 2147483648L), -2147483648L);
        C.due("p37 4294967295 of 32", x.write(2, 0, 4294967295L), -1);
        C.due("p37 4294967295 of 64", x.write(3, 0, 4294967295L), 4294967295L);
    }

    /** Each TRAY by itself; a place by itself. */
    private static void p37TraysApart() {
        BothSides x = Check.drawn(Texts.SQUARE);
        x.begin(0, 0, true);
        for (int tray = 0; tray < 4; tray++) {
            x.tray(tray, tray, 4);
            for (int place = 0; place < 4; place++) {
                x.write(tray, place, 2 * place);
            }
        }
        x.write(1, 3, 7);
        x.write(2, 0, 7);
        C.due("p37 as written", x.judge(0, 0), -1);
        C.due("p37 its last place alone", x.judge(1, 0), 3);
        C.due("p37 its first place alone", x.judge(2, 0), 0);
        C.due("p37 the last tray stays", x.judge(3, 0), -1);
    }

    // ---- images

    /** "IMAGES 0 to 2 (none at first)": each by itself. */
    private static void p38AnImageEach() {
        for (int i = -1; i <= 3; i++) {
            BothSides x = Check.drawn("east 1;");
            boolean is = i >= 0 && i <= 2;
            C.due("p39 none at first " + i, Reading.answer(x, "restore", i), is ? Check.STATE : Check.NO_SUCH);
            C.due("p38 image " + i, Reading.answer(x, "image", i), is ? "null" : Check.NO_SUCH);
            C.due("p39 then " + i, Reading.answer(x, "restore", i), is ? "null" : Check.NO_SUCH);
            for (int other = 0; other <= 2; other++) {
                C.due("p39 another one " + other, Reading.answer(x, "restore", other), other == i ? "null" : Check.STATE);
            }
        }
        BothSides x = new BothSides();
        for (int i = 0; i < 3; i++) {
            Check.draw(x, "east " + (i + 1) + ";");
            x.image(i);
        }
        x.drawing(0);
        for (int i : new int[] {2, 0, 1, 1, 2, 0}) {
            x.restore(i);
            C.due("p39 image " + i, x.count(0), i + 1);
        }
        x.image(1);
        x.restore(2);
        x.restore(1);
        C.due("p38 made again", x.count(0), 1);
        x.restore(2);
        C.due("p38 the others stay", x.count(0), 3);
    }

    /** "All is as in an IMAGE": lines, knots, what is worked, the THREAD, what was cut. */
    private static void p39AllIsAsInIt() {
        Reading.Story first = y -> {
            Check.draw(y, Texts.SQUARE + "ink 1;knot 4 4;northeast 1;");
            y.begin(1, 0, false);
            Check.sew(y, "42");
            y.begin(13, 0, true);
            Check.sew(y, "46");
        };
        String due = Reading.of(first).replaceAll("no image.*", "");
        String got = Reading.of(y -> {
            first.tell(y);
            y.image(1);
            y.unpick(1);
            y.stitch(2);
            y.cut();
            Check.draw(y, "at 9 9;ink 3;knot 1 1;knot 2 2;west 4;");
            y.begin(117, 3, true);
            y.work();
            y.begin(0, 0, false);
            y.begin(0, 0, false);
            y.restore(1);
        }).replaceAll("no image.*", "");
        C.due("p39 all is as in it", got, due);
        BothSides x = new BothSides();
        first.tell(x);
        x.image(0);
        for (int round = 0; round < 3; round++) {
            x.unpick(2);
            x.begin(143, 2, true);
            x.restore(0);
            C.due("p39 as often as wanted", x.thread(4) * 100 + x.thread(2) * 10 + x.count(2), 1321);
        }
        C.due("p39 the thread goes on", x.unpick(2), 0);
        C.due("p39 from where it began", x.thread(0), 13);
    }

    /** "all but the tape, the FAULT and TRAYS". */
    private static void p39NotTapeFaultTrays() {
        BothSides x = Check.drawn("east 1;");
        x.begin(0, 0, true);
        x.image(0);
        Check.draw(x, "east 1; ?");
        Check.feed(x, "north 1;");
        x.tray(0, 0, 2);
        x.write(0, 1, 4);
        x.restore(0);
        C.due("p39 the fault stays", x.fault(0), 1);
        C.due("p39 its place stays", x.fault(1), 8);
        C.due("p39 the tape stays", x.count(4), 20);
        C.due("p39 the tray stays", x.judge(0, 0) * 100 + x.judge(0, 3), -100);
        C.due("p39 what is on the tape stays", x.drawing(8), 1);
        C.due("p39 and is drawn", x.line(0, 1), 12);
        C.due("p39 no fault now", x.fault(0), 0);
        x.restore(0);
        C.due("p39 no fault still", x.fault(0), 0);
        C.due("p39 the tape is empty still", x.count(4), 0);
        BothSides y = new BothSides();
        y.image(0);
        y.tray(3, 3, 1);
        y.write(3, 0, 3);
        Check.feed(y, "north 1;");
        y.restore(0);
        C.due("p39 the tray is not missing", y.write(3, 0, 1), 1);
        C.due("p39 the tape is not empty", y.count(4), 20);
    }

    private static void p39OfNothing() {
        BothSides x = new BothSides();
        x.image(2);
        Check.draw(x, "knot 1 1;east 2;");
        x.begin(0, 0, true);
        x.begin(0, 0, true);
        Check.sew(x, "0");
        x.restore(2);
        for (int what = 0; what < 5; what++) {
            C.due("p39 nothing, count " + what, x.count(what), 0);
        }
        C.due("p39 no thread", x.may(0), 1);
        C.due("p39 no line", x.lineAt(0, 0), -1);
        C.due("p39 no ends", x.ends(1, -1) + x.ends(0, 0), 0);
        C.due("p39 no knot", x.knot(0), -1);
        C.due("p39 nothing is seen", x.seen(true) + x.seen(false), 0);
    }

    private static void p40Count() {
        BothSides x = new BothSides();
        int[] whats = {Integer.MIN_VALUE, -2, -1, 0, 1, 2, 3, 4, 5, 6, Integer.MAX_VALUE};
        for (int what : whats) {
            C.due("p40 new, " + what, x.count(what), what >= 0 && what <= 4 ? 0 : -1);
        }
        Check.draw(x, "knot 0 0;knot 11 11;knot 0 0;" + Texts.ROWS);
        x.begin(0, 0, true);
        C.due("p40 cut: none", x.count(2), 0);
        x.begin(0, 0, true);
        C.due("p40 cut by begin, without stitches, too", x.count(2), 1);
        x.cut();
        C.due("p40 cut", x.count(2), 2);
        x.begin(0, 0, true);
        C.due("p40 none was there to be cut", x.count(2), 2);
        x.work();
        Check.feed(x, " ".repeat(700));
        int[] due = {-1, -1, -1, 60, 2, 2, 60, 700, -1, -1, -1};
        for (int k = 0; k < whats.length; k++) {
            C.due("p40 all, " + whats[k], x.count(whats[k]), due[k]);
        }
        x.unpick(1);
        C.due("p40 on both faces", x.count(3), 59);
        C.due("p40 an empty drawing", x.drawing(700), 0);
        C.due("p40 none were cut since it was told", x.count(2), 0);
        BothSides y = Check.drawn("east 1;");
        y.begin(0, 0, true);
        y.begin(0, 0, true);
        Check.draw(y, "?");
        C.due("p40 since the drawing was told: a faulty one isn't", y.count(2), 1);
        Check.draw(y, "east 1;");
        C.due("p40 since the drawing was told", y.count(2), 0);
    }

    /** "An object is used for at most 512 calls". */
    private static void fiveHundredAndTwelve() {
        BothSides x = Check.drawn("east 2;knot 1 0;");
        for (int call = 3; call < 512; call++) {
            if (call % 2 == 1) {
                x.begin(1, 0, true);
            } else {
                x.threads(0, 4);
            }
        }
        C.due("the 512th call", x.count(2), 254);
    }
}
