/** Each promise by numbers worked out by hand, with the edges that the document names, and wrong inputs. */
public final class PromisesTest {
    static final int BAD = -1, NO = -2, FULL = -3, NONE = -4;
    static final int LOW = Integer.MIN_VALUE, HIGH = Integer.MAX_VALUE;
    static int wrong = 0;

    static void due(int promise, String call, int got, int want) {
        if (got != want) {
            wrong++;
            System.out.println("promise " + promise + ": " + call + " answered " + got + ", due is " + want);
        }
    }

    static void put(ShoulderHeirs x, String text) {
        x.wipe();
        for (char c : text.toCharArray()) x.write(c);
    }

    static ShoulderHeirs laid(String text) {
        ShoulderHeirs x = new ShoulderHeirs();
        put(x, text);
        if (x.lay() <= 0) {
            wrong++;
            System.out.println("not laid: " + text);
        }
        return x;
    }

    // b0 stumbles at yard 2, b1 bears it alone at half the cost (two were to bear it), yard 3 alone at the whole.
    static final String STUMBLE = "s4,5;b1,0;b6,0;t0,0,3;t1,1,3;";
    // Both pay 3 a yard; at yard 3 b0 has 1 left, so that one too few would bear it.
    static final String STAND = "s6,5;b1,0;b6,0;m2;t0,0,5;t1,0,5;";
    // Yards 0, 1 by two, yard 2 by b0 alone.
    static final String THREE = "s3,0;b6,0;b6,0;t0,0,2;t1,0,1;";

    public static void main(String[] args) {
        newObject();
        write();
        wipe();
        fault();
        lay();
        yard();
        bearer();
        costs();
        stands();
        share();
        turn();
        bear();
        leave();
        undo();
        best();
        safe();
        needed();
        far();
        son();
        cairn();
        heir();
        rests();
        prints();
        failed();
        odds();
        rain();
        kept();
        count();
        System.out.println("PromisesTest: " + wrong + " wrong");
        if (wrong > 0) System.exit(1);
    }

    static void newObject() {
        ShoulderHeirs x = new ShoulderHeirs();
        int[] counts = {3, 30, 5, 1, 0, 5, 0, 0, 0, 0};
        for (int w = 0; w < counts.length; w++) due(1, "count(" + w + ")", x.count(w), counts[w]);
        int[] strength = {60, 30, 90, 40, 40}, kind = {0, 1, 2, 3, 3}, acres = {420, 360, 0, 330, 330};
        int[] from = {0, 4, 10, 18, 18}, to = {9, 12, 20, 29, 29};
        for (int i = 0; i < 5; i++) {
            due(1, "bearer(" + i + ", 0)", x.bearer(i, 0), strength[i]);
            due(1, "bearer(" + i + ", 1)", x.bearer(i, 1), kind[i]);
            due(1, "bearer(" + i + ", 3)", x.bearer(i, 3), acres[i]);
            due(1, "turn(" + i + ", 0)", x.turn(i, 0), i);
            due(1, "turn(" + i + ", 1)", x.turn(i, 1), from[i]);
            due(1, "turn(" + i + ", 2)", x.turn(i, 2), to[i]);
        }
        due(1, "yard(9, 0)", x.yard(9, 0), 0);
        due(1, "yard(10, 0)", x.yard(10, 0), 1);
        due(1, "yard(17, 2)", x.yard(17, 2), 2);
        due(1, "yard(18, 2)", x.yard(18, 2), 1);
        due(1, "stands()", x.stands(), NONE);
        due(1, "BAD", ShoulderHeirs.BAD, -1);
        due(1, "NO", ShoulderHeirs.NO, -2);
        due(1, "FULL", ShoulderHeirs.FULL, -3);
        due(1, "NONE", ShoulderHeirs.NONE, -4);
    }

    static void write() {
        ShoulderHeirs x = new ShoulderHeirs();
        for (int c : new int[] {31, 127, -1, 0, 256 + 's', 65536 + 's', LOW, HIGH}) {
            due(2, "write(" + c + ")", x.write(c), BAD);
        }
        due(2, "count(9)", x.count(9), 0);
        due(2, "write(32)", x.write(32), 1);
        due(2, "write(126)", x.write(126), 2);
        for (int n = 3; n <= 200; n++) due(2, "write, the " + n + "-th", x.write('s'), n);
        due(2, "write, full", x.write('s'), FULL);
        due(2, "write(31), full", x.write(31), BAD);
        due(2, "count(9)", x.count(9), 200);
        due(2, "fault, full", x.fault(), 0);
    }

    static void wipe() {
        ShoulderHeirs x = new ShoulderHeirs();
        due(3, "wipe()", x.wipe(), 0);
        put(x, "s1,0;q");
        due(3, "fault()", x.fault(), 5);
        due(3, "wipe()", x.wipe(), 6);
        due(3, "wipe() again", x.wipe(), 0);
        due(3, "fault() of nothing", x.fault(), NONE);
        due(3, "stands(), still laid", x.count(1), 30);
        put(x, "s1,0;");
        due(3, "fault() of the next text", x.fault(), NONE);
    }

    static void faultOf(String text, int want) {
        ShoulderHeirs x = new ShoulderHeirs();
        put(x, text);
        due(4, "fault of " + text, x.fault(), want);
    }

    static void fault() {
        String[] sound = {"", "s1,0;", "s30,5;", "s05,01;", "b1,0;", "b60,3;", "m1;", "m3;", "m1;m03;", "r0;", "r3;",
            "b1,0;t0,0,99;", "b1,0;t0,4,4;", "b1,0;t00,00,00;", "s1,0;x0,1;", "s1,0;x0,9;x0,1;",
            "s30,0;s30,0;s30,0;s30,0;", "s1,0;".repeat(6), "b1,0;".repeat(6), "b1,0;" + "t0,0,0;".repeat(9)};
        for (String text : sound) faultOf(text, NONE);
        String[] atOnce = {"s", "s5", "s5,", "s5,1", "s;", "s5;", "s,;", "s,1;", "s5,;", "s5,1,", "s5,1,1;", "s005,1;",
            "s5,001;", "s0,1;", "s31,0;", "s30,6;", "s1,-1;", "s 1,0;", "s1, 0;", "S1,0;", "1,0;", ";", ",", " ", "~",
            "q1;", "b0,0;", "b61,0;", "b1,4;", "b1;", "m;", "m0;", "m4;", "m1,1;", "r;", "r4;", "r1,1;", "t0,0,0;",
            "t0,0;", "x0,1;", "x0;", "s1,0,b1,0;", "s1.0;", "s1/0;", "s1,:;"};
        for (String text : atOnce) faultOf(text, 0);
        String[] atFive = {"s1,0;;", "s1,0; b1,0;", "s1,0;b", "s1,0;b1,0", "b1,0;t1,0,9;", "b1,0;t0,5,4;",
            "b1,0;t0,0,100;", "b1,0;t0,0;", "b1,0;t0,0,0,0;", "s1,0;x0,0;", "s1,0;x0,10;", "s1,0;x1,1;", "s1,0;x0;",
            "s1,0;t0,0,0;b1,0;", "b1,0;x0,1;s1,0;", "s1,0;s0,0;b0,0;"};
        for (String text : atFive) faultOf(text, 5);
        faultOf("s30,0;s30,0;s30,0;s29,0;s2,0;", 24);
        faultOf("s1,0;".repeat(7), 30);
        faultOf("m1;".repeat(66) + "m1", 198);
        faultOf("m1;".repeat(66) + "m,", 198);
        faultOf("m1;".repeat(65) + "m01m1", 195);
        faultOf("m1;".repeat(64) + "m01;m01;", NONE);
        faultOf("b1,0;".repeat(7), 30);
        faultOf("b1,0;" + "t0,0,0;".repeat(10), 5 + 63);
    }

    static void lay() {
        ShoulderHeirs x = new ShoulderHeirs();
        due(5, "lay() of nothing", x.lay(), NO);
        for (String text : new String[] {"s1,0;", "b1,0;", "m1;r1;", "s1,0;b1,0;q", "s1,0;b1,0"}) {
            put(x, text);
            x.bear(0, 0, 0);
            due(5, "lay() of " + text, x.lay(), NO);
        }
        due(5, "count(1), as before", x.count(1), 30);
        due(5, "count(5), as before", x.count(5), 9);
        due(5, "count(7), as before", x.count(7), 4);
        x.print(0, 1);
        x.keep();
        put(x, "s3,1;s2,2;x1,3;x1,4;b2,3;b1,1;m2;m3;r3;r1;t1,0,9;");
        due(5, "lay()", x.lay(), 5);
        int[] counts = {2, 5, 2, 3, 1, 1, 0, 0, 0, 49};
        for (int w = 0; w < counts.length; w++) due(5, "count(" + w + ")", x.count(w), counts[w]);
        due(5, "yard(3, 2)", x.yard(3, 2), 4);
        due(5, "yard(2, 2)", x.yard(2, 2), 1);
        due(5, "undo()", x.undo(), NO);
        due(5, "back()", x.back(), NO);
        due(5, "forget()", x.forget(), 0);
        x.leave(0);
        due(5, "lay() again", x.lay(), 5);
        due(5, "turns as told again", x.count(5), 1);
        put(x, "b1,0;s1,0;");
        due(5, "lay()", x.lay(), 1);
        int[] fresh = {1, 1, 1, 1, 0, 0};
        for (int w = 0; w < fresh.length; w++) due(5, "then count(" + w + ")", x.count(w), fresh[w]);
        due(5, "price without x", x.yard(0, 2), 1);
        due(5, "nobody bears", x.stands(), 0);
        put(x, "s30,0;s30,0;s30,0;s30,0;b1,0;");
        due(5, "lay() of 120", x.lay(), 120);
    }

    static void yard() {
        ShoulderHeirs x = laid(STUMBLE);
        int[] by = {1, 3, 2, 2}, told = {1, 3, 3, 3};
        for (int y = 0; y < 4; y++) {
            due(6, "yard(" + y + ", 3)", x.yard(y, 3), told[y]);
            due(6, "yard(" + y + ", 4)", x.yard(y, 4), by[y]);
            due(6, "yard(" + y + ", 0)", x.yard(y, 0), 0);
            due(6, "yard(" + y + ", 1)", x.yard(y, 1), 5);
            due(6, "yard(" + y + ", 2)", x.yard(y, 2), 1);
        }
        x = laid(STAND);
        int[] few = {3, 3, 3, 0, 0, 0};
        for (int y = 0; y < 6; y++) {
            due(6, "yard(" + y + ", 4)", x.yard(y, 4), few[y]);
            due(6, "yard(" + y + ", 3)", x.yard(y, 3), 3);
        }
        x = laid("s2,1;s1,4;s3,0;b6,0;x2,7;");
        int[] stretch = {0, 0, 1, 2, 2, 2}, slope = {1, 1, 4, 0, 0, 0}, price = {1, 1, 1, 7, 7, 7};
        for (int y = 0; y < 6; y++) {
            due(6, "yard(" + y + ", 0)", x.yard(y, 0), stretch[y]);
            due(6, "yard(" + y + ", 1)", x.yard(y, 1), slope[y]);
            due(6, "yard(" + y + ", 2)", x.yard(y, 2), price[y]);
        }
        for (int y : new int[] {-1, 6, 119, 120, LOW, HIGH}) due(6, "yard(" + y + ", 0)", x.yard(y, 0), BAD);
        for (int w : new int[] {-1, 5, LOW, HIGH}) due(6, "yard(0, " + w + ")", x.yard(0, w), BAD);
    }

    static void bearerIs(ShoulderHeirs x, String text, int i, int left, int acres, int stumbles, int yards) {
        due(7, text + " bearer(" + i + ", 2)", x.bearer(i, 2), left);
        due(7, text + " bearer(" + i + ", 3)", x.bearer(i, 3), acres);
        due(7, text + " bearer(" + i + ", 4)", x.bearer(i, 4), stumbles);
        due(7, text + " bearer(" + i + ", 5)", x.bearer(i, 5), yards);
    }

    static void bearer() {
        ShoulderHeirs x = laid(STUMBLE);
        due(7, "bearer(0, 0)", x.bearer(0, 0), 10);
        due(7, "bearer(1, 0)", x.bearer(1, 0), 60);
        due(7, "bearer(1, 1)", x.bearer(1, 1), 0);
        bearerIs(x, STUMBLE, 0, 1, 0, 2, 2);
        bearerIs(x, STUMBLE, 1, 48, 150, NONE, 3);
        x = laid(STAND);
        bearerIs(x, STAND, 0, 1, 0, 3, 3);
        bearerIs(x, STAND, 1, 51, 90, NONE, 3);
        // Two stumble at one yard, the third pays by three there.
        String two = "s5,5;r3;b1,0;b1,0;b60,0;t0,0,4;t1,0,4;t2,0,4;";
        x = laid(two);
        bearerIs(x, two, 0, 1, 0, 3, 3);
        bearerIs(x, two, 1, 1, 0, 3, 3);
        bearerIs(x, two, 2, 600 - 12 - 9, 180, NONE, 5);
        // Price 3 for yards 2, 3; a hired one takes his part, and has none.
        String hired = "s2,0;s2,0;x1,3;b6,0;b6,2;t0,0,3;t1,1,2;";
        x = laid(hired);
        bearerIs(x, hired, 0, 56, 60 + 30 + 90 + 180, NONE, 4);
        bearerIs(x, hired, 1, 58, 0, NONE, 2);
        for (int i : new int[] {-1, 2, 6, LOW, HIGH}) due(7, "bearer(" + i + ", 0)", x.bearer(i, 0), BAD);
        for (int w : new int[] {-1, 6, LOW, HIGH}) due(7, "bearer(0, " + w + ")", x.bearer(0, w), BAD);
    }

    static void spent(String text, int... want) {
        ShoulderHeirs x = laid(text);
        for (int i = 0; i < want.length; i++) {
            due(7, text + " spent by " + i, x.bearer(i, 0) - x.bearer(i, 2), want[i]);
        }
    }

    static void costs() {
        spent("s1,3;b1,0;t0,0,0;", 4);
        spent("s1,3;b1,2;t0,0,0;", 4);
        spent("s1,3;b1,1;t0,0,0;", 8);
        spent("s1,3;b1,3;t0,0,0;", 4);
        spent("s1,3;r2;b1,0;t0,0,0;", 6);
        spent("s1,1;r3;b1,1;t0,0,0;", 10);
        // Two twins: 4 less 1, by two, cut; a twin beside another kind has no gain of it.
        spent("s1,3;b1,3;b1,3;t0,0,0;t1,0,0;", 1, 1);
        spent("s1,3;b1,3;b1,0;t0,0,0;t1,0,0;", 2, 2);
        spent("s1,3;b1,0;b1,3;t0,0,0;t1,0,0;", 2, 2);
        spent("s1,5;r1;b1,3;b1,1;b1,3;t0,0,0;t1,0,0;t2,0,0;", 2, 4, 2);
        spent("s1,0;b1,3;b1,3;t0,0,0;t1,0,0;", 1, 1);
        spent("s1,0;b1,0;b1,0;b1,1;t0,0,0;t1,0,0;t2,0,0;", 1, 1, 1);
        // Told twice for a yard, he bears it once; turns beyond the last yard do not matter.
        spent("s2,3;b1,0;t0,0,0;t0,0,99;t0,1,1;t0,50,99;", 8);
        spent("s2,3;b1,0;b1,0;t0,0,1;t0,0,1;t1,1,1;", 6, 2);
        // A twin who stumbles at a yard is still to bear it (9 less 1, by two: 4), not so at the next one.
        spent("s1,5;s2,5;r3;b1,3;b6,3;t0,0,2;t1,0,2;", 8, 4 + 4 + 4);
        spent("s1,5;s3,5;r3;b1,3;b6,3;t0,0,3;t1,0,3;", 8, 4 + 4 + 4 + 9);
        // Strength that is just enough.
        spent("s2,4;b1,0;t0,0,1;", 10);
    }

    static void stands() {
        due(8, "stands()", laid(STAND).stands(), 3);
        due(8, "stands()", laid(STUMBLE).stands(), NONE);
        due(8, "m2, one at yard 0", laid(STUMBLE + "m2;").stands(), 0);
        due(8, "no turn", laid("s3,0;b1,0;").stands(), 0);
        due(8, "a gap", laid("s5,0;b1,0;t0,0,2;t0,4,4;").stands(), 3);
        due(8, "the last yard", laid("s5,0;b1,0;t0,0,3;").stands(), 4);
        due(8, "too weak", laid("s5,4;b1,0;t0,0,4;").stands(), 2);
        ShoulderHeirs x = laid("s5,4;b1,0;b9,0;t0,0,4;t1,3,4;");
        due(8, "stumbling at the yard where it stands", x.bearer(0, 4), 2);
        due(8, "the next one does not go on", x.bearer(1, 5), 0);
        due(8, "forfeited", x.bearer(0, 3), 0);
        due(8, "m3", laid("s2,0;m3;b6,0;b6,1;b6,2;t0,0,1;t1,0,1;t2,0,0;").stands(), 1);
    }

    static void shareIs(ShoulderHeirs x, int i, int above, int below) {
        due(9, "share(" + i + ", 0)", x.share(i, 0), above);
        due(9, "share(" + i + ", 1)", x.share(i, 1), below);
    }

    static void share() {
        ShoulderHeirs x = new ShoulderHeirs();
        shareIs(x, 0, 7, 24);
        shareIs(x, 1, 1, 4);
        shareIs(x, 2, 0, 1);
        shareIs(x, 4, 11, 48);
        x = laid(STUMBLE);
        shareIs(x, 0, 0, 1);
        shareIs(x, 1, 1, 1);
        x = laid("s3,0;b6,0;b6,2;t1,0,2;");
        shareIs(x, 0, 0, 1);
        shareIs(x, 1, 0, 1);
        for (int i : new int[] {-1, 2, LOW, HIGH}) due(9, "share(" + i + ", 0)", x.share(i, 0), BAD);
        for (int p : new int[] {-1, 2, LOW, HIGH}) due(9, "share(0, " + p + ")", x.share(0, p), BAD);
    }

    static void turnIs(int promise, ShoulderHeirs x, int k, int who, int from, int to) {
        due(promise, "turn(" + k + ", 0)", x.turn(k, 0), who);
        due(promise, "turn(" + k + ", 1)", x.turn(k, 1), from);
        due(promise, "turn(" + k + ", 2)", x.turn(k, 2), to);
    }

    static void turn() {
        ShoulderHeirs x = laid("s3,0;b1,0;b2,0;t1,2,99;t0,50,60;");
        turnIs(10, x, 0, 1, 2, 99);
        turnIs(10, x, 1, 0, 50, 60);
        for (int k : new int[] {-1, 2, 9, LOW, HIGH}) due(10, "turn(" + k + ", 0)", x.turn(k, 0), BAD);
        for (int w : new int[] {-1, 3, LOW, HIGH}) due(10, "turn(0, " + w + ")", x.turn(0, w), BAD);
    }

    static void bear() {
        ShoulderHeirs x = laid("s3,0;b1,0;b2,0;");
        int[][] bad = {{-1, 0, 0}, {2, 0, 0}, {0, -1, 0}, {0, 0, 120}, {0, 120, 120}, {0, 1, 0}, {0, -2, -1},
            {LOW, 0, 0}, {HIGH, 0, 0}, {0, LOW, 0}, {0, 0, HIGH}, {0, HIGH, HIGH}, {0, 0, LOW}};
        for (int[] b : bad) due(11, "bear " + b[0] + " " + b[1] + " " + b[2], x.bear(b[0], b[1], b[2]), BAD);
        due(11, "count(5)", x.count(5), 0);
        due(11, "count(7)", x.count(7), 0);
        due(11, "bear(1, 0, 119)", x.bear(1, 0, 119), 1);
        turnIs(11, x, 0, 1, 0, 119);
        due(11, "stands()", x.stands(), NONE);
        due(11, "bear(0, 119, 119)", x.bear(0, 119, 119), 2);
        due(11, "bear(0, 2, 2)", x.bear(0, 2, 2), 3);
        due(11, "yard(2, 4)", x.yard(2, 4), 3);
        for (int n = 4; n <= 9; n++) due(11, "bear", x.bear(0, 0, 0), n);
        due(11, "bear, full", x.bear(0, 0, 0), FULL);
        due(11, "bear, full and bad", x.bear(2, 0, 0), BAD);
        due(11, "count(5)", x.count(5), 9);
        due(11, "count(7)", x.count(7), 8);
    }

    static void leave() {
        ShoulderHeirs x = laid("s4,0;b1,0;b2,0;t0,0,0;t1,1,1;t0,2,3;");
        for (int k : new int[] {-1, 3, LOW, HIGH}) due(12, "leave(" + k + ")", x.leave(k), BAD);
        due(12, "leave(1)", x.leave(1), 2);
        turnIs(12, x, 0, 0, 0, 0);
        turnIs(12, x, 1, 0, 2, 3);
        due(12, "turn(2, 0)", x.turn(2, 0), BAD);
        due(12, "stands()", x.stands(), 1);
        due(12, "leave(1)", x.leave(1), 1);
        due(12, "leave(0)", x.leave(0), 0);
        due(12, "leave(0) of none", x.leave(0), BAD);
        due(12, "stands()", x.stands(), 0);
    }

    static void undo() {
        ShoulderHeirs x = laid("s4,0;b1,0;b2,0;t0,0,0;t1,1,1;t0,2,3;");
        due(13, "undo() of nothing", x.undo(), NO);
        x.leave(1);
        x.bear(1, 3, 3);
        due(13, "undo()", x.undo(), 1);
        due(13, "count(5)", x.count(5), 2);
        due(13, "undo()", x.undo(), 0);
        turnIs(13, x, 1, 1, 1, 1);
        turnIs(13, x, 2, 0, 2, 3);
        due(13, "stands()", x.stands(), NONE);
        due(13, "undo() of no more", x.undo(), NO);
        x = laid("s4,0;b1,0;");
        for (int n = 1; n <= 9; n++) x.bear(0, n, n);
        x.leave(0);
        due(13, "only the last 8", x.count(7), 8);
        due(13, "undo()", x.undo(), 7);
        turnIs(13, x, 0, 0, 1, 1);
        due(13, "count(5)", x.count(5), 9);
        for (int n = 6; n >= 0; n--) {
            due(13, "undo()", x.undo(), n);
            due(13, "count(5) after " + n, x.count(5), n + 2);
            turnIs(13, x, n + 1, 0, n + 2, n + 2);
        }
        due(13, "undo()", x.undo(), NO);
        due(13, "what is too old stays", x.count(5), 2);
        turnIs(13, x, 1, 0, 2, 2);
        x.bear(0, 0, 1);
        x.bear(5, 0, 1);
        x.leave(7);
        due(13, "bad ones are not undone", x.undo(), 0);
        due(13, "count(5)", x.count(5), 2);
    }

    static void bestIs(String text, int i, int turn, int acres) {
        ShoulderHeirs x = laid(text);
        due(14, text + " best(" + i + ", 0)", x.best(i, 0), turn);
        due(14, text + " best(" + i + ", 1)", x.best(i, 1), acres);
    }

    static void best() {
        bestIs("s4,0;b6,0;b6,0;t0,0,3;", 1, 3, 120);
        bestIs("s4,0;b6,0;b6,0;t0,0,3;", 0, NONE, NONE);
        bestIs("s4,0;b6,0;b6,2;t0,0,3;", 1, NONE, NONE);
        bestIs("s4,0;b6,0;b6,2;t1,0,3;t1,0,3;", 1, NONE, NONE);
        // Yards that are his already: the lowest A reaches over them, the lowest B does not.
        bestIs("s4,0;b6,0;b6,0;t0,0,1;t1,2,3;", 0, 3, 180);
        bestIs("s4,0;b6,0;b6,0;t0,2,3;t1,0,1;", 0, 1, 180);
        // He stumbles at the third yard (4 of 10 each), and forfeits: two yards, the dear one with them.
        bestIs("s3,5;r3;b1,0;b6,0;t1,0,2;", 0, 1, 60);
        bestIs("s2,5;s1,5;x1,9;r3;b1,0;b6,0;t1,0,2;", 0, 202, 300);
        // By his help the other one does not stumble at yard 1; it comes to yard 2.
        bestIs("s3,5;b6,0;b1,0;t0,2,2;t1,0,1;", 0, 1, 120);
        // A turn before his own one would make him stumble in that.
        bestIs("s2,4;b1,0;b6,0;t0,1,1;t1,0,0;", 0, 0, 90);
        bestIs("s1,5;s1,5;x1,2;r1;b1,0;b6,0;t0,1,1;t1,0,0;", 0, 0, 150);
        bestIs("s1,5;s1,5;x1,2;r3;b1,0;b6,0;t0,1,1;t1,0,0;", 0, NONE, NONE);
        // Yard 0 is too dear for him with the others (4 of 10, then 4, 2, 2): from his own yard 1 on.
        bestIs("s1,5;s3,0;x1,2;r3;b1,0;b6,0;t0,1,1;t1,0,0;t1,2,3;", 0, 203, 240);
        bestIs("s4,0;b6,0;b6,0;" + "t0,0,3;".repeat(9), 1, 3, 120);
        // Where it stands at once, he can bear it from the first yard on.
        bestIs("s4,0;b6,0;b6,0;", 1, 3, 240);
        bestIs("s4,0;m2;b6,0;b6,0;", 1, NONE, NONE);
        ShoulderHeirs x = laid("s30,0;s30,0;s30,0;s30,0;b60,0;b60,0;");
        x.bear(0, 0, 119);
        due(14, "120 yards that never stand", x.best(1, 0), 119);
        due(14, "their acres", x.best(1, 1), 3600);
        due(14, "he has them all", x.best(0, 0), NONE);
        x = laid("s4,0;b6,0;b6,0;t0,0,3;");
        due(14, "best(0, 1), then count(5)", x.best(1, 1) - 120 + x.count(5), 1);
        for (int i : new int[] {-1, 2, LOW, HIGH}) due(14, "best(" + i + ", 0)", x.best(i, 0), BAD);
        for (int w : new int[] {-1, 2, LOW, HIGH}) due(14, "best(1, " + w + ")", x.best(1, w), BAD);
    }

    static void safe() {
        due(15, "two for each yard", laid("s2,0;b6,0;b6,0;t0,0,1;t1,0,1;").safe(), NONE);
        due(15, "m2", laid("s2,0;m2;b6,0;b6,0;t0,0,1;t1,0,1;").safe(), 0);
        due(15, "the second", laid("s2,0;b6,0;b6,0;t0,0,0;t1,0,1;").safe(), 1);
        due(15, "it stands as it is", laid("s2,0;b6,0;b6,0;").safe(), 0);
        // Without b0's strength b1 bears yards 0 to 2 at 3, 6, 6 of 10.
        due(15, "too weak alone", laid("s3,5;b6,0;b1,0;t0,0,2;t1,0,2;").safe(), 0);
        ShoulderHeirs x = new ShoulderHeirs();
        due(15, "safe()", x.safe(), 0);
        due(15, "nothing changes", x.stands(), NONE);
    }

    static void needed() {
        due(16, "needed()", new ShoulderHeirs().needed(), 4);
        due(16, "one of two", laid("s10,0;b1,0;b1,0;").needed(), 1);
        due(16, "the strong one", laid("s10,1;b1,0;b1,0;b2,0;").needed(), 4);
        due(16, "both", laid("s10,2;b1,0;b1,0;").needed(), 3);
        due(16, "none", laid("s10,3;b1,0;b1,0;").needed(), NONE);
        due(16, "m2", laid("s3,0;m2;b1,0;b1,0;b1,0;").needed(), 3);
        due(16, "m2 of one", laid("s3,0;m2;b1,0;").needed(), NONE);
        due(16, "twins", laid("s10,3;b1,0;b1,3;b1,0;b1,3;").needed(), 10);
        due(16, "the fewest ahead of the lowest", laid("s10,1;b1,0;b1,0;b1,0;b1,0;b1,0;b2,0;").needed(), 32);
        // Six limping ones pay 10 by six, cut: 1 a yard; five would pay 2.
        due(16, "all six", laid("s10,4;" + "b1,1;".repeat(6)).needed(), 63);
        due(16, "turns do not matter", laid("s10,0;b1,0;b1,0;t1,0,9;").needed(), 1);
    }

    static void farIs(String text, int yards, int... order) {
        ShoulderHeirs x = laid(text);
        due(17, text + " far(-1)", x.far(-1), yards);
        for (int k = 0; k < order.length; k++) due(17, text + " far(" + k + ")", x.far(k), order[k]);
    }

    static void far() {
        // b1 (10): 3 yards of 1, one of 6; b0 (20): three of 6. The other way round: 5 yards, then 1.
        farIs("s3,0;s10,5;b2,0;b1,0;", 7, 1, 0);
        farIs("s3,0;s10,5;b1,0;b2,0;", 7, 0, 1);
        farIs("s10,0;s10,4;b1,0;b1,1;", 11, 0, 1);
        // The limping one bears the light yards as far as he comes; a twin is alone.
        farIs("s10,0;b1,1;", 5, 0);
        farIs("s10,1;r1;b1,3;b1,3;", 6, 0, 1);
        farIs("s2,0;b1,0;b1,0;b1,0;", 2, 0, 1, 2);
        farIs("s2,0;m3;b1,2;", 2, 0);
        farIs("s5,5;r3;b1,1;b1,1;", 0, 0, 1);
        ShoulderHeirs x = laid("s2,0;b1,0;b1,0;b1,0;");
        for (int k : new int[] {-2, 3, 6, LOW, HIGH}) due(17, "far(" + k + ")", x.far(k), BAD);
    }

    static void son() {
        ShoulderHeirs x = laid("s3,0;s10,5;b2,0;b1,0;");
        due(18, "son(0, 0)", x.son(0, 0), 0);
        due(18, "son(0, 3)", x.son(0, 3), 0);
        due(18, "son(0, 4)", x.son(0, 4), 1);
        due(18, "son(1, 99)", x.son(1, 99), 6);
        // b1 (15): 3 of 1, two of 6.
        due(18, "son(1, 5)", x.son(1, 5), 1);
        due(18, "far(-1), as before", x.far(-1), 7);
        for (int i : new int[] {-1, 2, LOW, HIGH}) due(18, "son(" + i + ", 0)", x.son(i, 0), BAD);
        for (int q : new int[] {-1, 100, LOW, HIGH}) due(18, "son(0, " + q + ")", x.son(0, q), BAD);
        due(18, "a limping one", laid("s10,0;b1,1;").son(0, 3), 1);
    }

    static void cairn() {
        ShoulderHeirs x = laid("s4,0;s4,1;b6,0;b6,0;t0,0,3;t1,4,7;x1,3;");
        due(19, "cairn(0, 0, 1)", x.cairn(0, 0, 1), 9999);
        due(19, "cairn(1, 0, 1)", x.cairn(1, 0, 1), 9999 - 120);
        due(19, "cairn(0, 0, -2)", x.cairn(0, 0, -2), 9999 + 240);
        due(19, "cairn(1, 0, 3)", x.cairn(1, 0, 3), 9999 - 360);
        due(19, "cairn(0, 0, -3)", x.cairn(0, 0, -3), 9999 + 360);
        for (int d : new int[] {4, 5, 9, -4, -9}) due(19, "cairn(0, 0, " + d + ")", x.cairn(0, 0, d), NO);
        due(19, "cairn(0, 1, 1)", x.cairn(0, 1, 1), NO);
        for (int d : new int[] {0, 10, -10, LOW, HIGH}) due(19, "cairn(0, 0, " + d + ")", x.cairn(0, 0, d), BAD);
        for (int k : new int[] {-1, 2, LOW, HIGH}) due(19, "cairn(0, " + k + ", 1)", x.cairn(0, k, 1), BAD);
        for (int i : new int[] {-1, 2, LOW, HIGH}) due(19, "cairn(" + i + ", 0, 1)", x.cairn(i, 0, 1), BAD);
        due(19, "bad ahead of no", x.cairn(2, 1, 1), BAD);
        due(19, "the hill as before", x.yard(4, 0), 1);
        x = laid("s30,0;s5,0;b60,0;t0,0,34;x1,2;");
        due(19, "longer than 30", x.cairn(0, 0, 4), 9999 - 240);
        // Steeper yards, too, come down: yards 0 to 3 at 2 and 6 by b0 (10), who stumbles then.
        x = laid("s4,1;s4,5;b1,0;b60,0;t0,0,3;t1,4,7;");
        due(19, "he would stumble", x.cairn(0, 0, -1), 9999 - 240);
        due(19, "it would stand", x.cairn(1, 0, -1), 9999 - 240);
        due(19, "the short one behind", laid("s9,0;s2,0;b1,0;").cairn(0, 0, 2), NO);
        due(19, "one yard of it left", laid("s9,0;s2,0;b1,0;").cairn(0, 0, 1), 9999);
        due(19, "the short one before", laid("s2,0;s9,0;b1,0;").cairn(0, 0, -2), NO);
        due(19, "the long one behind", laid("s2,0;s9,0;b1,0;").cairn(0, 0, 5), 9999);
        due(19, "one stretch", laid("s9,0;b1,0;").cairn(0, 0, 1), NO);
        x = laid("s3,0;s3,0;s3,0;b6,0;t0,6,8;t0,0,5;x1,5;x2,2;");
        due(19, "the stretches behind stay where they are", x.cairn(0, 0, 1), 9999 - 240);
        due(19, "cairn(0, 1, 2)", x.cairn(0, 1, 2), 9999 + 360);
        put(x, "s3,0;s3,0;b6,0;");
        x.lay();
        due(19, "the last one now", x.cairn(0, 1, 1), NO);
        // Less by 10000 and more is told as it is.
        x = laid("s1,0;s30,0;s30,0;b60,0;t0,0,60;x1,9;");
        due(19, "far below", x.cairn(0, 1, -9), 9999 - 9 * 8 * 60);
        x = laid("s10,5;s30,0;b2,1;b60,0;t0,0,0;t1,1,39;x1,9;");
        due(19, "cairn(1, 0, 9)", x.cairn(1, 0, 9), 9999 - 9 * 8 * 60);
    }

    static void heirs(String text, int acres, int yards, int strength) {
        ShoulderHeirs x = laid(text);
        due(20, text + " heir(0)", x.heir(0), acres);
        due(20, text + " heir(1)", x.heir(1), yards);
        due(20, text + " heir(2)", x.heir(2), strength);
    }

    static void heir() {
        heirs("s3,0;b1,0;b1,0;", 0, 0, 0);
        heirs("s6,0;b6,0;b6,1;b6,2;t0,0,0;t1,1,2;t2,3,5;", 1, 2, 1);
        heirs(STAND, 1, 0, 0);
        // b0 bears 3 yards at 3 of 10 and forfeits; b1 bears the last two.
        heirs("s3,2;s2,3;b1,0;b6,0;t0,0,3;t1,3,4;", 1, 0, 0);
        heirs("s1,0;s1,0;s1,5;x1,9;b6,0;b6,0;b6,0;t0,0,0;t1,1,1;t2,2,2;", 1, 0, 2);
        ShoulderHeirs x = new ShoulderHeirs();
        due(20, "heir(0)", x.heir(0), 0);
        due(20, "heir(1)", x.heir(1), 3);
        due(20, "heir(2)", x.heir(2), 2);
        for (int law : new int[] {-1, 3, LOW, HIGH}) due(20, "heir(" + law + ")", x.heir(law), BAD);
    }

    static void restsAre(String text, int i, int j, int many, int first) {
        ShoulderHeirs x = laid(text);
        due(21, text + " rests(" + i + ", " + j + ", 0)", x.rests(i, j, 0), many);
        due(21, text + " rests(" + i + ", " + j + ", 1)", x.rests(i, j, 1), first);
    }

    static void rests() {
        // Alone 120 and 240, both 60 and 120 each: (0, 1), (1, 0) and (1, 1) rest.
        restsAre("s2,0;s4,0;b6,0;b6,0;", 0, 1, 3, 1);
        restsAre("s2,0;s4,0;m3;x0,9;b6,2;b6,0;t0,0,1;", 1, 0, 3, 1);
        restsAre("s4,0;s1,0;b6,0;b6,0;", 0, 1, 1, 0);
        restsAre("s1,0;s4,0;b6,0;b6,0;", 0, 1, 1, 9);
        restsAre("s3,5;b1,0;b1,0;", 0, 1, 1, 0);
        // The weak one has 90 beside the strong one (half the cost) and 60 alone; the strong one would be alone.
        restsAre("s6,5;s6,5;b1,0;b60,0;", 0, 1, 0, NONE);
        restsAre("s6,5;s6,5;b1,0;b60,0;", 1, 0, 0, NONE);
        // In the rain of 3 more the weak one has 60 both ways; all four choices but those of both alike rest.
        restsAre("s6,5;s6,5;r3;b1,0;b60,0;", 0, 1, 2, 1);
        // Nobody bears the steep yard alone.
        restsAre("s1,5;s2,0;b1,1;b1,1;", 0, 1, 1, 9);
        // Two limping ones (12 a yard alone, 6 together), of 10: nothing alone, one yard together.
        restsAre("s6,5;s6,5;b1,1;b1,1;", 0, 1, 2, 0);
        ShoulderHeirs x = laid("s2,0;s4,0;b6,0;b6,0;");
        int[][] bad = {{0, 0, 0}, {1, 1, 1}, {-1, 0, 0}, {2, 0, 0}, {0, -1, 0}, {0, 2, 0}, {0, 1, -1}, {0, 1, 2},
            {LOW, 0, 0}, {0, HIGH, 0}, {0, 1, HIGH}, {2, 2, 0}};
        for (int[] b : bad) due(21, "rests " + b[0] + " " + b[1] + " " + b[2], x.rests(b[0], b[1], b[2]), BAD);
        due(21, "three of two alike", new ShoulderHeirs().rests(3, 4, 1), 2);
    }

    static void prints() {
        ShoulderHeirs x = laid(THREE);
        int[][] bad = {{-1, 0}, {3, 0}, {0, -1}, {0, 7}, {LOW, 0}, {HIGH, 0}, {0, LOW}, {0, HIGH}};
        for (int[] b : bad) due(22, "print " + b[0] + " " + b[1], x.print(b[0], b[1]), BAD);
        due(22, "count(6)", x.count(6), 0);
        due(23, "forget() of none", x.forget(), 0);
        for (int n = 1; n <= 8; n++) due(22, "print", x.print(2, n % 2 * 6), n);
        due(22, "print, full", x.print(0, 0), FULL);
        due(22, "print, full and bad", x.print(3, 0), BAD);
        due(22, "count(6)", x.count(6), 8);
        due(23, "forget()", x.forget(), 8);
        due(23, "count(6)", x.count(6), 0);
        due(22, "print again", x.print(0, 0), 1);
        x.bear(0, 0, 0);
        x.undo();
        due(22, "turns leave prints", x.count(6), 1);
        due(23, "forget()", x.forget(), 1);
        due(23, "failed() of none", x.failed(), 67);
    }

    static void failed() {
        ShoulderHeirs x = laid(THREE);
        due(24, "no print", x.failed(), 67);
        x.print(0, 1);
        due(24, "one at yard 0", x.failed(), 3);
        x.print(2, 1);
        due(24, "and one at yard 2", x.failed(), 2);
        x.print(0, 2);
        due(24, "and two at yard 0", x.failed(), 0);
        x.forget();
        x.print(1, 2);
        due(24, "as it is", x.failed(), 64);
        x.forget();
        x.print(2, 1);
        due(24, "as it is, or he", x.failed(), 66);
        x.bear(1, 2, 2);
        due(24, "turns as they are now", x.failed(), 3);
        // Beyond where it stands nobody bore it.
        x = laid(STAND);
        x.print(3, 0);
        x.print(2, 2);
        due(24, "beyond", x.failed(), 64);
        x.forget();
        x.print(5, 0);
        due(24, "beyond, by all", x.failed(), 67);
    }

    static void oddsAre(String text, int n, int x, int above, int below) {
        ShoulderHeirs h = laid(text);
        due(25, text + " odds(" + n + ", " + x + ", 0)", h.odds(n, x, 0), above);
        due(25, text + " odds(" + n + ", " + x + ", 1)", h.odds(n, x, 1), below);
    }

    static void odds() {
        oddsAre(THREE, 0, 3, 1, 1);
        oddsAre(THREE, 1, 3, 7, 10);
        oddsAre(THREE, 2, 3, 7, 10);
        oddsAre(THREE, 5, 3, 7, 10);
        oddsAre(THREE, 5, 5, 1, 2);
        oddsAre(THREE, 5, 10, 0, 1);
        oddsAre(THREE, 5, 0, 1, 1);
        oddsAre("s2,0;m2;b6,0;b6,0;t0,0,1;t1,0,1;", 2, 3, 49, 100);
        oddsAre("s2,0;b6,0;b6,0;t0,0,1;t1,0,1;", 2, 3, 91, 100);
        String five = "s6,0;b6,0;t0,0,0;t0,1,1;t0,2,2;t0,3,3;t0,4,4;t0,5,5;";
        oddsAre(five, 5, 1, 59049, 100000);
        oddsAre(five, 5, 2, 1024, 3125);
        oddsAre(five, 4, 1, 6561, 10000);
        oddsAre(five, 5, 9, 1, 100000);
        oddsAre("s2,0;b6,0;", 5, 1, 0, 1);
        ShoulderHeirs x = laid(five);
        int[][] bad = {{-1, 0, 0}, {6, 0, 0}, {0, -1, 0}, {0, 11, 0}, {0, 0, -1}, {0, 0, 2}, {LOW, 0, 0}, {HIGH, 0, 0},
            {0, LOW, 0}, {0, HIGH, 0}, {0, 0, LOW}, {0, 0, HIGH}};
        for (int[] b : bad) due(25, "odds " + b[0] + " " + b[1] + " " + b[2], x.odds(b[0], b[1], b[2]), BAD);
        due(25, "turns as before", x.stands(), NONE);
    }

    static void rain() {
        // By z = 0 yards 0 to 4 cost 1, 0, 0, 0, 2 more; by z = 9999 yards 0 to 2 cost 0, 2, 0 more.
        due(26, "8 of 10", laid("s5,0;b1,0;t0,0,4;").rain(0, 0), NONE);
        ShoulderHeirs x = laid("s5,0;r1;b1,0;t0,0,4;");
        due(26, "13 of 10", x.rain(0, 0), 4);
        due(26, "as it is", x.stands(), NONE);
        due(26, "11 of 10", laid("s3,2;b1,0;t0,0,2;").rain(9999, 0), 2);
        due(26, "ahead of kind", laid("s2,1;s3,2;b3,1;t0,0,4;").rain(0, 0), 4);
        x = laid("s5,0;b1,0;b2,0;r1;t0,0,4;t1,4,4;");
        due(26, "heir(0), dry", x.heir(0), 0);
        due(26, "rain(0, 0)", x.rain(0, 0), NONE);
        due(26, "rain(0, 1)", x.rain(0, 1), 1);
        due(26, "heir(0), dry again", x.heir(0), 0);
        due(26, "nobody has any", laid("s5,0;b1,0;b2,0;").rain(7, 1), 0);
        for (int z : new int[] {-1, 10000, LOW, HIGH}) due(26, "rain(" + z + ", 0)", x.rain(z, 0), BAD);
        for (int w : new int[] {-1, 2, LOW, HIGH}) due(26, "rain(0, " + w + ")", x.rain(0, w), BAD);
    }

    static void kept() {
        ShoulderHeirs x = laid("s4,0;b1,0;b2,0;t0,0,0;t1,1,1;");
        due(28, "back() of none", x.back(), NO);
        due(27, "keep()", x.keep(), 1);
        x.leave(0);
        due(27, "keep()", x.keep(), 2);
        due(27, "keeping leaves what can be undone", x.count(7), 1);
        x.bear(0, 3, 3);
        due(27, "keep(), full", x.keep(), FULL);
        due(27, "count(8)", x.count(8), 2);
        due(28, "back()", x.back(), 1);
        due(28, "count(5)", x.count(5), 1);
        turnIs(28, x, 0, 1, 1, 1);
        due(28, "stands()", x.stands(), 0);
        due(28, "nothing is undone then", x.undo(), NO);
        due(27, "keep() again", x.keep(), 2);
        due(28, "back()", x.back(), 1);
        due(28, "back()", x.back(), 0);
        turnIs(28, x, 0, 0, 0, 0);
        turnIs(28, x, 1, 1, 1, 1);
        due(28, "yard(0, 4)", x.yard(0, 4), 1);
        due(28, "back() of no more", x.back(), NO);
        x.bear(0, 2, 3);
        due(28, "back() that is none undoes nothing", x.back(), NO);
        due(28, "count(7)", x.count(7), 1);
        due(28, "count(5)", x.count(5), 3);
    }

    static void count() {
        ShoulderHeirs x = laid("s4,0;s3,0;b1,0;b2,0;b3,0;m2;r3;t0,0,0;t1,1,1;t1,2,2;t1,3,3;");
        x.bear(0, 0, 0);
        x.print(0, 0);
        x.print(0, 0);
        x.keep();
        x.leave(0);
        int[] counts = {2, 7, 3, 2, 3, 4, 2, 2, 1, 59};
        for (int w = 0; w < counts.length; w++) due(29, "count(" + w + ")", x.count(w), counts[w]);
        for (int w : new int[] {-1, 10, LOW, HIGH}) due(29, "count(" + w + ")", x.count(w), BAD);
    }
}
