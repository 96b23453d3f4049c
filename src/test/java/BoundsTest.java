import java.lang.annotation.Retention;
import java.lang.annotation.RetentionPolicy;
import java.lang.reflect.InvocationTargetException;
import java.lang.reflect.Method;
import java.lang.reflect.Modifier;
import java.nio.file.Files;
import java.nio.file.Path;
import java.util.ArrayList;
import java.util.Arrays;
import java.util.HashMap;
import java.util.List;
import java.util.Map;

/**
 * The document's boundary cases: for each sentence that names one a test of its own, marked with the sentence's words.
 * With the document's path as an argument it looks first whether those words stand there.
 */
public final class BoundsTest {
    static final int BAD = -1, NO = -2, FULL = -3, NONE = -4;
    static final int LOW = Integer.MIN_VALUE, HIGH = Integer.MAX_VALUE;

    /** The sentence that a test is of, in the document's own words. */
    @Retention(RetentionPolicy.RUNTIME)
    @interface Of {
        String value();
    }

    static String sentence = "";
    static int wrong = 0;
    static int checks = 0;
    static final Map<String, Method> FACE = new HashMap<>();

    static void due(String what, int got, int want) {
        checks++;
        if (got != want) {
            wrong++;
            System.out.println("[" + sentence + "] " + what + " answered " + got + ", due is " + want);
        }
    }

    /** An object that is asked by texts such as "bear 0 1 2", for 512 calls at most: what more answer is free. */
    static final class Farm {
        final ShoulderHeirs heirs = new ShoulderHeirs();
        String story = "new";
        int calls = 0;

        int ask(String call) {
            if (++calls > 512) throw new IllegalStateException("more than 512 calls: " + story);
            String[] words = call.split(" ");
            Object[] numbers = new Object[words.length - 1];
            for (int k = 0; k < numbers.length; k++) {
                String w = words[k + 1];
                numbers[k] = w.equals("low") ? LOW : w.equals("high") ? HIGH : Integer.parseInt(w);
            }
            try {
                return (Integer) FACE.get(words[0]).invoke(heirs, numbers);
            } catch (InvocationTargetException | IllegalAccessException e) {
                throw new IllegalStateException(story + ": " + call, e);
            }
        }

        Farm is(String call, int want) {
            due(story + ": " + call, ask(call), want);
            return this;
        }

        /** Several calls, parted by ; of which the answers do not matter here. */
        Farm then(String more) {
            for (String call : more.split("; *")) ask(call);
            story += "; " + more;
            return this;
        }

        Farm writes(String text) {
            for (char c : text.toCharArray()) ask("write " + (int) c);
            story += "; " + text;
            return this;
        }
    }

    static Farm fresh() {
        return new Farm();
    }

    static Farm told(String text) {
        return fresh().writes(text);
    }

    static Farm laid(String text) {
        Farm f = told(text);
        int yards = f.ask("lay");
        if (yards <= 0) due("lay of " + text, yards, 1);
        return f;
    }

    static void sound(String... texts) {
        for (String text : texts) told(text).is("fault", NONE);
    }

    static void faulty(int place, String... texts) {
        for (String text : texts) told(text).is("fault", place);
    }

    static String times(int n, String text) {
        return text.repeat(n);
    }

    // Two of 40, 4 yards, one of them dear: small, so that all of it can be looked at.
    static final String SMALL = "s2,0;s2,1;x1,2;b4,0;b4,3;t0,0,2;t1,2,3;";
    // 200 letters: six stretches of 120 yards, six bearers, nine turns, the most that must bear, the most rain.
    static final String LARGEST = times(6, "s20,0;") + times(6, "b1,0;") + "m3;r3;" + times(9, "t0,0,0;")
        + times(19, "m3;") + times(2, "m03;");
    static final String SMALLEST = "s1,0;b1,0;";

    // ---- What it is, 1: texts

    @Of("A TEXT is letters (200 at most)")
    static void letters() {
        String most = "s9,0;b9,0;" + times(61, "m1;") + "t0,0,8;";
        due("letters here", most.length(), 200);
        told(most).is("count 9", 200).is("write 59", FULL).is("count 9", 200).is("fault", NONE).is("lay", 9)
            .is("count 5", 1).is("stands", NONE).is("wipe", 200);
        told(most.substring(0, 199)).is("count 9", 199).is("fault", 193).is("lay", NO).is("write 59", 200)
            .is("fault", NONE).is("lay", 9);
        // Its last item would need the 201st letter.
        told("s9,0;b9,0;" + times(61, "m1;") + "t0,0,10;").is("count 9", 200).is("fault", 193).is("lay", NO);
        fresh().is("count 9", 0).is("fault", NONE).is("lay", NO);
    }

    @Of("ITEMS one behind the other, each a letter")
    static void items() {
        for (char c = 32; c <= 126; c++) {
            if ("sbmrtx".indexOf(c) < 0) {
                faulty(10, SMALLEST + c, SMALLEST + c + "1;", SMALLEST + c + "1,1;", SMALLEST + c + "0,1,1;");
                faulty(0, "" + c);
            }
        }
        sound("", "s1,0;", "b1,0;", "m1;", "r1;", "s1,0;x0,1;", "b1,0;t0,0,0;", "r1;m1;b1,0;s1,0;");
        faulty(0, "S1,0;", "1,0;", ";", "ss1,0;", " s1,0;");
        faulty(5, "s1,0; b1,0;", "s1,0;;", "s1,0;,");
    }

    @Of("then numbers (one or two figures)")
    static void figures() {
        String[] items = {"s#,1;", "s1,#;", "b#,1;", "b1,#;", "m#;", "r#;", "t#,1,1;", "t1,#,1;", "t1,1,#;", "x#,1;",
            "x1,#;"};
        String ahead = "s1,1;s1,1;b1,1;b1,1;";
        for (String item : items) {
            sound(ahead + item.replace("#", "1"), ahead + item.replace("#", "01"));
            for (String n : new String[] {"", "001", "100", "1 ", " 1", "-1", "+1", "1.", "a", "0x1", "/", ":"}) {
                faulty(20, ahead + item.replace("#", n));
            }
        }
        // 99 is a number; the bounds of each kind stand at its own sentence.
        sound("b1,0;t0,99,99;", "b1,0;t0,00,00;");
        told("s09,05;b07,03;m02;r03;x00,08;t00,01,02;").is("fault", NONE).is("lay", 9).is("yard 0 1", 5)
            .is("bearer 0 0", 70).is("count 3", 2).is("count 4", 3).is("yard 0 2", 8).is("turn 0 2", 2);
    }

    @Of("parted by , and a ; behind the last one")
    static void marks() {
        String ahead = "s1,1;b1,1;";
        for (String item : new String[] {"s1,1;", "b1,1;", "m1;", "r1;", "x0,1;", "t0,1,1;"}) {
            for (int cut = 1; cut < item.length(); cut++) {
                faulty(10, ahead + item.substring(0, cut), ahead + item.substring(0, cut) + "m1;");
            }
            String bare = item.substring(0, item.length() - 1);
            faulty(10, ahead + bare + ",", ahead + bare + ",1;", ahead + bare + ":", ahead + bare + " ;",
                ahead + bare + ",;", ahead + item.charAt(0) + ";");
            if (item.indexOf(',') > 0) {
                faulty(10, ahead + item.replace(",", ";"), ahead + item.replace(",", ""), ahead + item.replace(",", "."),
                    ahead + item.replace(",", ",,"), ahead + item.replace(",", ", "));
            }
        }
        faulty(10, ahead + "s1;", ahead + "b1;", ahead + "x0;", ahead + "t0;", ahead + "t0,1;", ahead + "t0,1,1,1;",
            ahead + "m1,1;", ahead + "r1,1;", ahead + "s1,1,1;", ahead + "b1,1,1;", ahead + "x0,1,1;");
    }

    @Of("sL,U a STRETCH of L (1 to 30) yards")
    static void lengthOfStretch() {
        faulty(0, "s0,0;", "s00,0;", "s31,0;", "s32,0;", "s99,0;");
        sound("s1,0;", "s2,0;", "s29,0;", "s30,0;");
        told("s1,0;b1,0;").is("lay", 1).is("count 1", 1).is("yard 0 0", 0).is("yard 1 0", BAD);
        told("s30,0;b1,0;").is("lay", 30).is("count 1", 30).is("yard 29 0", 0).is("yard 30 0", BAD);
        told("s31,0;b1,0;").is("lay", NO);
        told("s0,0;b1,0;").is("lay", NO);
    }

    @Of("of slope U (0 to 5)")
    static void slope() {
        sound("s1,0;", "s1,5;");
        faulty(0, "s1,6;", "s1,7;", "s1,10;", "s1,50;", "s1,99;");
        laid("s1,0;b1,0;").is("yard 0 1", 0);
        laid("s1,5;b1,0;").is("yard 0 1", 5);
    }

    @Of("6 at most, 120 yards together at most, 0, 1, ..")
    static void stretches() {
        sound(times(6, "s1,0;"), times(6, "s20,0;"), times(4, "s30,0;"), times(3, "s30,0;") + "s29,0;s1,0;");
        faulty(30, times(7, "s1,0;"), times(6, "s1,0;") + "s0,0;");
        faulty(38, "b1,0;" + times(6, "s1,0;") + "m1;s1,0;");
        faulty(24, times(4, "s30,0;") + "s1,0;", times(4, "s30,0;") + "s30,0;", times(3, "s30,0;") + "s29,0;s2,0;");
        faulty(30, times(5, "s20,0;") + "s21,0;");
        laid(times(4, "s30,0;") + "b1,0;").is("count 1", 120).is("yard 119 0", 3).is("yard 120 0", BAD);
        laid("s1,0;s1,1;s1,2;s1,3;s1,4;s1,5;b1,0;").is("count 0", 6).is("yard 0 0", 0).is("yard 5 0", 5)
            .is("yard 5 1", 5).is("yard 6 0", BAD);
        told(times(7, "s1,0;") + "b1,0;").is("lay", NO);
        told(times(4, "s30,0;") + "s1,0;b1,0;").is("lay", NO);
    }

    @Of("bS,K a BEARER of STRENGTH 10 times S (S 1 to 60)")
    static void strength() {
        faulty(0, "b0,0;", "b00,0;", "b61,0;", "b62,0;", "b99,0;");
        sound("b1,0;", "b60,0;");
        laid("s1,0;b1,0;b2,0;b59,0;b60,0;").is("bearer 0 0", 10).is("bearer 1 0", 20).is("bearer 2 0", 590)
            .is("bearer 3 0", 600);
        told("s1,0;b0,0;").is("lay", NO);
        told("s1,0;b61,0;").is("lay", NO);
    }

    @Of("of KIND K (0 CHILD, 1 LIMPING, 2 HIRED, 3 TWIN)")
    static void kind() {
        sound("b1,0;", "b1,1;", "b1,2;", "b1,3;");
        faulty(0, "b1,4;", "b1,5;", "b1,10;", "b1,99;");
        Farm f = laid("s1,0;b1,0;b1,1;b1,2;b1,3;");
        for (int i = 0; i < 4; i++) f.is("bearer " + i + " 1", i);
    }

    @Of("3 TWIN); 6 at most, 0, 1, ..")
    static void bearers() {
        sound(times(6, "b1,0;"));
        faulty(30, times(7, "b1,0;"), times(6, "b1,0;") + "b0,0;");
        faulty(35, "s1,0;" + times(7, "b1,0;"));
        laid("s1,0;b1,0;b2,0;b3,0;b4,0;b5,0;b6,0;").is("count 2", 6).is("bearer 0 0", 10).is("bearer 5 0", 60)
            .is("bearer 6 0", BAD);
        told("s1,0;" + times(7, "b1,0;")).is("lay", NO);
    }

    @Of("mM M (1 to 3) must bear it at once (1 without; the last one)")
    static void must() {
        faulty(0, "m0;", "m00;", "m4;", "m5;", "m10;", "m99;");
        sound("m1;", "m2;", "m3;", "m1;m2;m3;m1;");
        faulty(3, "m3;m4;m1;", "m3;m0;m1;");
        laid("s1,0;b1,0;").is("count 3", 1);
        laid("m1;s1,0;b1,0;").is("count 3", 1);
        laid("s1,0;b1,0;m3;").is("count 3", 3);
        laid("m3;s1,0;m1;b1,0;m2;").is("count 3", 2);
        laid("s1,0;b1,0;m2;m1;").is("count 3", 1);
        // What was told of one text does not stay for the next.
        laid("m3;r3;s1,0;b1,0;").then("wipe").writes("s1,0;b1,0;").is("lay", 1).is("count 3", 1).is("count 4", 0);
    }

    @Of("rR it rains: a yard costs R (0 to 3) more (0 without; the last one)")
    static void rains() {
        sound("r0;", "r1;", "r2;", "r3;", "r3;r0;r3;");
        faulty(0, "r4;", "r5;", "r10;", "r30;", "r99;");
        faulty(3, "r3;r4;r0;");
        laid("s1,0;b1,0;t0,0,0;").is("count 4", 0).is("bearer 0 2", 9);
        laid("r0;s1,0;b1,0;t0,0,0;").is("count 4", 0).is("bearer 0 2", 9);
        laid("r3;s1,0;b1,0;t0,0,0;").is("count 4", 3).is("bearer 0 2", 6);
        laid("r3;s1,0;r0;b1,0;r2;t0,0,0;").is("count 4", 2).is("bearer 0 2", 7);
        laid("r3;s1,0;b1,0;t0,0,0;r0;").is("count 4", 0).is("bearer 0 2", 9);
    }

    @Of("BEARER I (told ahead)")
    static void bearerOfTurn() {
        faulty(0, "t0,0,0;", "t0,0,0;b1,0;");
        faulty(5, "b1,0;t1,0,0;", "b1,0;t1,0,0;b1,0;", "b1,0;t99,0,0;", "s1,0;t0,0,0;b1,0;");
        faulty(30, times(6, "b1,0;") + "t6,0,0;");
        sound("b1,0;t0,0,0;", "b1,0;b1,0;t1,0,0;", times(6, "b1,0;") + "t5,0,0;", "b1,0;t0,0,0;s1,0;");
        laid("s1,0;" + times(6, "b1,0;") + "t5,0,0;").is("turn 0 0", 5).is("yard 0 4", 32);
    }

    @Of("bears yards A to B (0 to 99, A no more than B)")
    static void yardsOfTurn() {
        sound("b1,0;t0,0,0;", "b1,0;t0,0,99;", "b1,0;t0,99,99;", "b1,0;t0,7,7;", "b1,0;t0,7,8;", "b1,0;t0,98,99;");
        faulty(5, "b1,0;t0,8,7;", "b1,0;t0,1,0;", "b1,0;t0,99,98;", "b1,0;t0,99,0;", "b1,0;t0,0,100;",
            "b1,0;t0,100,100;", "b1,0;t0,0,119;", "b1,0;t0,-1,0;");
        laid("s1,0;b1,0;t0,0,99;t0,99,99;t0,0,0;").is("turn 0 1", 0).is("turn 0 2", 99).is("turn 1 1", 99)
            .is("turn 1 2", 99).is("turn 2 1", 0).is("turn 2 2", 0);
        told("s1,0;b1,0;t0,1,0;").is("lay", NO);
    }

    @Of("A no more than B); 9 at most")
    static void turnsOfText() {
        sound("b1,0;" + times(9, "t0,0,0;"));
        faulty(5 + 63, "b1,0;" + times(10, "t0,0,0;"), "b1,0;" + times(9, "t0,0,0;") + "t1,0,0;");
        laid("s1,0;b1,0;" + times(8, "t0,0,0;") + "t0,5,6;").is("count 5", 9).is("turn 8 1", 5).is("turn 9 0", BAD);
        told("s1,0;b1,0;" + times(10, "t0,0,0;")).is("lay", NO);
        laid(SMALLEST).is("count 5", 0).is("turn 0 0", BAD);
    }

    @Of("xN,D a price: acres of STRETCH N (told ahead) count D times (1 to 9; 1 without; the last one of each)")
    static void price() {
        faulty(0, "x0,1;", "x0,1;s1,0;");
        faulty(5, "s1,0;x1,1;", "s1,0;x1,1;s1,0;", "s1,0;x99,1;", "b1,0;x0,1;s1,0;");
        faulty(30, times(6, "s1,0;") + "x6,1;");
        sound("s1,0;x0,1;", "s1,0;s1,0;x1,1;", times(6, "s1,0;") + "x5,9;", "s1,0;x0,9;", "s1,0;x0,5;x0,5;");
        faulty(5, "s1,0;x0,0;", "s1,0;x0,00;", "s1,0;x0,10;", "s1,0;x0,99;");
        faulty(10, "s1,0;x0,9;x0,0;", "s1,0;x0,9;x0,10;");
        laid("s1,0;s1,0;s1,0;b1,0;t0,0,2;x2,9;x1,5;x2,1;x1,9;").is("yard 0 2", 1).is("yard 1 2", 9)
            .is("yard 2 2", 1).is("bearer 0 3", 60 + 540 + 60);
        laid("s1,0;x0,9;b1,0;").then("wipe").writes("s1,0;b1,0;").is("lay", 1).is("yard 0 2", 1);
    }

    @Of("FAULT: the place of the first letter of the first ITEM that is not so.")
    static void placeOfFault() {
        faulty(0, "q", "s", "s31,0;q;b99,9;");
        faulty(5, "s1,0;q;q;q;", "s1,0;s1,0", "s1,0;s1,00000;");
        // The last place that there is.
        String till199 = times(65, "m1;") + "m01;";
        due("letters here", till199.length(), 199);
        faulty(199, till199 + "m", till199 + "s", till199 + ";", till199 + "~");
        faulty(198, times(66, "m1;") + "m1", times(66, "m1;") + "m,", times(66, "m1;") + "q;");
        sound("", times(64, "m1;") + "m01;m01;");
        // It is of THE TEXT as it is, letter by letter.
        told("s1,0").is("fault", 0).is("write 59", 5).is("fault", NONE).is("write 115", 6).is("fault", 5);
    }

    @Of("LAID is a TEXT without FAULT, of a STRETCH and a BEARER at least (NO else;")
    static void layable() {
        for (String text : new String[] {"", "s1,0;", "b1,0;", "m1;r1;", "s1,0;x0,2;", "b1,0;t0,0,0;", "s1,0;b1,0",
            "s1,0;b1,0;q", "q;s1,0;b1,0;", "s1,0;b1,0;t1,0,0;"}) {
            told(text).is("lay", NO).is("count 1", 30).is("count 0", 3).is("count 2", 5);
        }
        told("s1,0;b1,0;").is("lay", 1).is("count 0", 1).is("count 2", 1).is("stands", 0);
        told("b1,0;s1,0;").is("lay", 1);
        told("s1,0;").is("lay", NO).writes("b1,0;").is("lay", 1);
    }

    // ---- What it is, 2: the way up

    @Of("Yards are 0, 1, .. from below, those of STRETCH 0 first;")
    static void yardsFromBelow() {
        Farm f = laid("s2,1;s1,4;s3,0;b6,0;x1,7;");
        int[] stretch = {0, 0, 1, 2, 2, 2}, slope = {1, 1, 4, 0, 0, 0}, price = {1, 1, 7, 1, 1, 1};
        for (int y = 0; y < 6; y++) {
            f.is("yard " + y + " 0", stretch[y]).is("yard " + y + " 1", slope[y]).is("yard " + y + " 2", price[y]);
        }
        f.is("yard -1 0", BAD).is("yard 6 0", BAD);
    }

    @Of("TURNS, or parts of them, beyond the last yard do not matter.")
    static void beyond() {
        for (String more : new String[] {"", "t0,3,3;", "t1,3,99;", "t0,99,99;"}) {
            laid("s3,0;b6,0;b6,0;t0,0,2;t1,2,2;" + more).is("stands", NONE).is("bearer 0 2", 57).is("bearer 0 5", 3)
                .is("bearer 0 3", 150).is("bearer 1 2", 59).is("bearer 1 5", 1).is("bearer 1 4", NONE);
        }
        laid("s3,0;b6,0;t0,1,99;t0,0,0;").is("bearer 0 5", 3).is("bearer 0 2", 57).is("stands", NONE);
        laid("s3,0;b6,0;t0,3,99;").is("stands", 0).is("bearer 0 5", 0).is("bearer 0 2", 60);
        // On the highest hill the last turn that can be told is of its last yard.
        laid(times(4, "s30,0;") + "b60,0;").then("bear 0 0 118").is("stands", 119).then("bear 0 119 119")
            .is("stands", NONE).is("bearer 0 5", 120).is("bearer 0 2", 480);
    }

    @Of("BEARERS in a TURN of whom it is (in several: once), who have not STUMBLED, are to bear it.")
    static void once() {
        laid("s2,2;b6,0;b6,0;" + times(3, "t0,0,1;") + "t1,1,1;").is("yard 0 3", 1).is("yard 1 3", 3)
            .is("bearer 0 2", 60 - 3 - 1).is("bearer 1 2", 59).is("bearer 0 5", 2).is("bearer 0 3", 90);
        laid("s2,0;m2;b6,0;t0,0,1;t0,0,1;").is("stands", 0);
    }

    static void spent(String text, int... each) {
        Farm f = laid(text);
        for (int i = 0; i < each.length; i++) {
            due(text + " spent by " + i, f.ask("bearer " + i + " 0") - f.ask("bearer " + i + " 2"), each[i]);
        }
    }

    @Of("It costs each of them by KIND: 1, and the slope, and R, together;")
    static void costs() {
        spent("s1,0;b6,0;t0,0,0;", 1);
        spent("s1,5;b6,0;t0,0,0;", 6);
        spent("s1,0;r3;b6,0;t0,0,0;", 4);
        spent("s1,5;r3;b6,0;t0,0,0;", 9);
        // The dearest yards that there are, with just as much strength as they cost: 9 times 20, 18 times 30.
        spent("s20,5;r3;b18,0;t0,0,19;", 180);
        laid("s20,5;r3;b18,0;t0,0,19;").is("stands", NONE);
        spent("s30,5;r3;b54,1;t0,0,29;", 540);
        laid("s30,5;s1,0;r3;b54,1;t0,0,30;").is("stands", 30);
    }

    @Of("Others bear it, their STRENGTH is as much less.")
    static void asMuchLess() {
        laid("s10,0;b1,0;t0,0,9;").is("bearer 0 2", 0).is("bearer 0 5", 10).is("bearer 0 4", NONE).is("stands", NONE);
        laid("s11,0;b1,0;t0,0,10;").is("bearer 0 2", 0).is("bearer 0 5", 10).is("bearer 0 4", 10).is("stands", 10);
        laid("s1,0;b60,0;").is("bearer 0 2", 600);
        // At the yard where it stands nobody's is less.
        laid("s1,5;m2;b6,0;t0,0,0;").is("stands", 0).is("bearer 0 2", 60);
    }

    @Of("a LIMPING one twice that; a TWIN 1 less, if another TWIN is to bear it, too;")
    static void kindsPay() {
        spent("s1,5;r3;b6,0;t0,0,0;", 9);
        spent("s1,5;r3;b6,1;t0,0,0;", 18);
        spent("s1,5;r3;b6,2;t0,0,0;", 9);
        spent("s1,5;r3;b6,3;t0,0,0;", 9);
        spent("s1,5;r3;b6,3;b6,3;t0,0,0;", 9, 0);
        spent("s1,5;r3;b6,3;b6,3;t0,0,0;t1,0,0;", 4, 4);
        // 6 by two; 6 less 1 by two, cut.
        spent("s1,5;b6,3;b6,0;t0,0,0;t1,0,0;", 3, 3);
        spent("s1,5;b6,0;b6,3;t0,0,0;t1,0,0;", 3, 3);
        spent("s1,5;b6,3;b6,3;b6,0;t0,0,0;t2,0,0;", 3, 0, 3);
        spent("s1,5;b6,3;b6,3;t0,0,0;t1,0,0;", 2, 2);
        // By 4 of 10 a twin falls at yard 2: there he is another one, at yard 3 no more.
        laid("s4,5;r3;b1,3;b6,3;t0,0,3;t1,0,3;").is("bearer 0 4", 2).is("bearer 1 2", 60 - 4 - 4 - 4 - 9);
    }

    @Of("all that is by how many are to bear it, cut, 1 at least.")
    static void oneAtLeast() {
        spent("s1,0;b6,0;t0,0,0;", 1);
        spent("s1,0;b6,0;b6,0;t0,0,0;t1,0,0;", 1, 1);
        spent("s1,0;b6,3;b6,3;t0,0,0;t1,0,0;", 1, 1);
        spent("s1,1;b6,3;b6,3;t0,0,0;t1,0,0;", 1, 1);
        spent("s1,2;b6,0;b6,1;t0,0,0;t1,0,0;", 1, 3);
        spent("s1,4;b6,0;b6,0;b6,1;t0,0,0;t1,0,0;t2,0,0;", 1, 1, 3);
        spent("s1,5;b6,0;b6,0;b6,0;b6,0;b6,0;b6,0;t0,0,0;t1,0,0;t2,0,0;t3,0,0;t4,0,0;t5,0,0;", 1, 1, 1, 1, 1, 1);
        spent("s1,0;b6,0;b6,0;b6,0;b6,0;b6,0;b6,1;t0,0,0;t1,0,0;t2,0,0;t3,0,0;t4,0,0;t5,0,0;", 1, 1, 1, 1, 1, 1);
    }

    @Of("Who has less STRENGTH left than it costs him STUMBLES there")
    static void lessThanItCosts() {
        // 5 and 5 of 10 are just enough; 6 and 6 are not; 3, 3, 3 leave 1.
        laid("s2,4;b1,0;t0,0,1;").is("bearer 0 4", NONE).is("bearer 0 2", 0).is("stands", NONE);
        laid("s3,4;b1,0;t0,0,2;").is("bearer 0 4", 2).is("bearer 0 2", 0).is("stands", 2);
        laid("s2,5;b1,0;t0,0,1;").is("bearer 0 4", 1).is("bearer 0 2", 4);
        laid("s4,2;b1,0;t0,0,3;").is("bearer 0 4", 3).is("bearer 0 2", 1);
        // 12 of 10 at the first yard.
        laid("s1,5;b1,1;t0,0,0;").is("bearer 0 4", 0).is("bearer 0 2", 10).is("bearer 0 5", 0).is("stands", 0);
        laid("s1,4;b1,1;t0,0,0;").is("bearer 0 4", NONE).is("bearer 0 2", 0).is("bearer 0 5", 1);
    }

    @Of("(those who STUMBLE at a yard count among those who are to bear it)")
    static void stumblersCount() {
        // At yard 3 two have 1 left of 10 and fall (3 each); the third pays by three there, alone at yard 4.
        laid("s5,5;r3;b1,0;b1,0;b60,0;t0,0,4;t1,0,4;t2,0,4;").is("bearer 0 4", 3).is("bearer 1 4", 3)
            .is("bearer 2 2", 600 - 3 - 3 - 3 - 3 - 9).is("bearer 2 3", 20 + 20 + 20 + 60 + 60);
    }

    @Of("he does not bear it, nor ever again, and forfeits.")
    static void neverAgain() {
        // 6 of 10, then 6 of 4; the later yards would cost him 1.
        laid("s2,5;s2,0;b1,1;b6,0;t0,0,3;t1,0,3;").is("bearer 0 4", 1).is("bearer 0 2", 4).is("bearer 0 5", 1)
            .is("bearer 0 3", 0).is("yard 0 4", 3).is("yard 1 4", 2).is("yard 2 3", 3).is("yard 2 4", 2)
            .is("yard 3 4", 2).is("bearer 1 2", 60 - 3 - 3 - 1 - 1).is("bearer 1 3", 30 + 60 + 60 + 60);
        laid("s2,5;s2,0;b1,1;b6,0;t0,0,0;t0,2,3;t1,0,3;").is("bearer 0 4", NONE).is("bearer 0 5", 3)
            .is("bearer 0 2", 2);
    }

    @Of("It STANDS at the first yard that fewer than M would bear;")
    static void fewerThanM() {
        String three = "b6,0;b6,0;b6,0;t0,0,9;t1,1,9;t2,2,9;";
        laid("s3,0;m1;" + three).is("stands", NONE);
        laid("s3,0;m2;" + three).is("stands", 0);
        laid("s3,0;m2;b6,0;b6,0;t0,0,2;t1,0,2;").is("stands", NONE);
        laid("s3,0;m3;b6,0;b6,0;t0,0,2;t1,0,2;").is("stands", 0);
        laid("s3,0;m3;b6,0;b6,0;b6,0;t0,0,2;t1,0,2;t2,0,2;").is("stands", NONE);
        laid("s3,0;m3;b6,0;b6,0;b6,0;t0,0,2;t1,0,2;t2,0,1;").is("stands", 2);
        laid("s3,0;b6,0;").is("stands", 0);
        laid("s3,0;b6,0;t0,0,1;").is("stands", 2);
        laid("s3,0;b6,0;t0,0,0;t0,2,2;").is("stands", 1);
        laid(times(4, "s30,0;") + "b60,0;").then("bear 0 0 118").is("stands", 119);
    }

    @Of("from that one on nobody bears anything (who STUMBLES at it has STUMBLED).")
    static void nobodyBears() {
        // 3 of 10 each; at yard 3 b0 falls, one is fewer than two.
        Farm f = laid("s6,5;m2;b1,0;b6,0;b6,0;t0,0,5;t1,0,5;t2,4,5;");
        int[] by = {3, 3, 3, 0, 0, 0}, to = {3, 3, 3, 3, 7, 7};
        for (int y = 0; y < 6; y++) f.is("yard " + y + " 4", by[y]).is("yard " + y + " 3", to[y]);
        f.is("stands", 3).is("bearer 0 4", 3).is("bearer 0 3", 0).is("bearer 1 4", NONE).is("bearer 1 2", 51)
            .is("bearer 1 3", 90).is("bearer 1 5", 3).is("bearer 2 5", 0).is("bearer 2 2", 60);
        // Who would have fallen later has not.
        laid("s6,5;b1,0;b1,0;t0,0,5;t1,5,5;").is("stands", 1).is("bearer 0 4", 1).is("bearer 1 4", NONE);
    }

    @Of("Each yard that is borne counts 60 times its price, parted among all who bear it (cut)")
    static void parted() {
        String six = "b6,0;b6,0;b6,0;b6,0;b6,0;b6,0;";
        String turns = "";
        for (int i = 0; i < 6; i++) {
            turns += "t" + i + ",0,0;";
            Farm f = laid("s1,0;" + six + turns);
            for (int k = 0; k < 6; k++) f.is("bearer " + k + " 3", k <= i ? 60 / (i + 1) : 0);
        }
        laid("s1,0;x0,9;" + six + turns).is("bearer 0 3", 90).is("bearer 5 3", 90);
        laid("s1,0;x0,9;" + six + "t0,0,0;").is("bearer 0 3", 540);
        laid("s1,0;x0,1;" + six + "t0,0,0;").is("bearer 0 3", 60);
    }

    @Of("HIRED ones have none, who forfeits has none.")
    static void haveNone() {
        laid("s2,0;b6,0;b6,2;t0,0,0;t1,0,1;").is("bearer 0 3", 30).is("bearer 1 3", 0).is("bearer 1 5", 2);
        laid("s2,5;b1,0;b6,0;t0,0,1;t1,1,1;").is("bearer 0 3", 60 + 30);
        laid("s3,5;b1,0;b6,0;t0,0,2;t1,1,2;").is("bearer 0 4", 2).is("bearer 0 3", 0).is("bearer 0 5", 2);
    }

    @Of("SHARE: one's ACRES by all ACRES, in lowest terms (0 of 1, if there are none).")
    static void lowestShare() {
        laid("s1,0;b6,0;b6,0;").is("share 0 0", 0).is("share 0 1", 1).is("share 1 0", 0).is("share 1 1", 1);
        laid("s1,0;b6,2;t0,0,0;").is("share 0 0", 0).is("share 0 1", 1);
        laid("s1,0;b6,0;b6,0;t0,0,0;").is("share 0 0", 1).is("share 0 1", 1).is("share 1 0", 0).is("share 1 1", 1);
        laid("s1,0;b6,0;b6,0;t0,0,0;t1,0,0;").is("share 0 0", 1).is("share 0 1", 2);
        laid("s30,0;s29,0;b60,0;b60,0;t0,0,29;t1,30,58;").is("share 0 0", 30).is("share 0 1", 59).is("share 1 0", 29);
        // The most acres that there are: 120 yards of price 9.
        laid(times(4, "s30,0;") + "x0,9;x1,9;x2,9;x3,9;b60,0;b60,0;").then("bear 0 0 118; bear 1 119 119")
            .is("bearer 0 3", 119 * 540).is("share 0 0", 119).is("share 0 1", 120).is("share 1 0", 1);
    }

    @Of("A TURN is told; one is left out (those behind it come one down).")
    static void oneDown() {
        String text = "s9,0;b6,0;b6,0;t0,0,1;t1,2,3;t0,4,5;";
        int[][] turns = {{0, 0, 1}, {1, 2, 3}, {0, 4, 5}};
        for (int out = 0; out < 3; out++) {
            Farm f = laid(text).is("leave " + out, 2);
            for (int k = 0; k < 2; k++) {
                for (int w = 0; w < 3; w++) f.is("turn " + k + " " + w, turns[k < out ? k : k + 1][w]);
            }
            f.is("turn 2 0", BAD).is("leave 2", BAD).is("count 5", 2);
        }
    }

    @Of("UNDONE is the latest of these (the last 8 can be).")
    static void lastEight() {
        Farm f = laid("s9,0;b6,0;");
        for (int n = 1; n <= 8; n++) f.is("bear 0 " + n + " 9", n).is("count 7", n);
        f.is("bear 0 0 0", 9).is("count 7", 8);
        f.is("undo", 7).is("count 5", 8).is("turn 7 1", 8);
        for (int n = 6; n >= 0; n--) f.is("undo", n).is("count 5", n + 1).is("turn " + n + " 1", n + 1);
        // The ninth undoing: the first turn stays.
        f.is("undo", NO).is("count 5", 1).is("turn 0 1", 1).is("count 7", 0);
        f.is("leave 0", 0).is("undo", 0).is("turn 0 1", 1);
        laid("s1,0;b6,0;t0,0,0;").is("leave 0", 0).is("stands", 0).is("undo", 0).is("stands", NONE).is("yard 0 3", 1);
        laid(SMALLEST).is("undo", NO);
        // Eight and no more: all of them can be.
        Farm eight = laid("s9,0;b6,0;").then(times(8, "bear 0 0 0; "));
        for (int n = 7; n >= 0; n--) eight.is("undo", n);
        eight.is("undo", NO).is("count 5", 0);
        // Left ones count as told ones do.
        Farm both = laid("s9,0;b6,0;" + times(9, "t0,0,8;")).then(times(5, "leave 0; bear 0 1 1; ")).is("count 7", 8);
        for (int n = 7; n >= 0; n--) both.is("undo", n).is("count 5", n % 2 == 1 ? 8 : 9);
        both.is("undo", NO).is("turn 8 1", 1).is("turn 7 1", 0);
    }

    // ---- What it is, 3: what would be

    @Of("BEST for a BEARER: the one TURN more (whether there are 9 or not)")
    static void bestOfNine() {
        for (int n = 1; n <= 9; n++) {
            laid("s4,0;b6,0;b6,0;" + times(n, "t0,0,3;")).is("best 1 0", 3).is("best 1 1", 120).is("count 5", n);
        }
        laid("s4,0;b6,0;b6,0;" + times(9, "t0,0,3;")).is("bear 1 0 3", FULL).is("best 1 1", 120);
        laid("s4,0;b6,0;").is("best 0 0", 3).is("best 0 1", 240).is("count 5", 0);
    }

    @Of("of several the one of lowest A, then lowest B: 200 times A and B; as much;")
    static void lowestBest() {
        // By 0 to 3, 1 to 3 and 2 to 3 alike; then by 0 to 1, 0 to 2, 0 to 3 alike.
        laid("s4,0;b6,0;b6,0;t0,0,1;t1,2,3;").is("best 0 0", 3).is("best 0 1", 180);
        laid("s4,0;b6,0;b6,0;t0,2,3;t1,0,1;").is("best 0 0", 1).is("best 0 1", 180);
        // His own yard 3 and one more of 0, 1, 2 is what he can bear beside the other one.
        laid("s4,4;b1,1;b60,0;t0,3,3;t1,0,3;").is("best 0 0", 0).is("best 0 1", 60);
        // Yard 0 is too dear (4 of 10, then 4, 2, 2): from his own yard 1 on, which is lower than from 2 on.
        laid("s1,5;s3,0;x1,2;r3;b1,0;b6,0;t0,1,1;t1,0,0;t1,2,3;").is("best 0 0", 203).is("best 0 1", 240);
        // Three yards (3 of 10 each) anywhere on the highest hill, a sixth of each: the lowest ones.
        laid(times(4, "s30,5;") + "r3;b1,1;" + times(5, "b60,0;"))
            .then("bear 1 0 119; bear 2 0 119; bear 3 0 119; bear 4 0 119; bear 5 0 119").is("best 0 0", 2).is("best 0 1", 30);
        // The lowest and the highest that there is: he can bear one yard beside another, the last is dear.
        laid("s1,0;b1,0;").is("best 0 0", 0).is("best 0 1", 60);
        laid("s30,5;s30,5;s30,5;s29,5;s1,5;x4,9;b1,1;b60,0;b60,0;").then("bear 1 0 59; bear 2 60 119")
            .is("best 0 0", 200 * 119 + 119).is("best 0 1", 270);
        laid(times(4, "s30,0;") + "x0,9;x1,9;x2,9;x3,9;b60,0;").is("best 0 0", 119).is("best 0 1", 120 * 540);
    }

    @Of("none (by none are they more than now).")
    static void noBest() {
        laid("s4,0;b6,0;t0,0,3;").is("best 0 0", NONE).is("best 0 1", NONE);
        laid("s4,0;b6,0;t0,0,2;").is("best 0 0", 3).is("best 0 1", 240);
        laid("s4,0;b6,0;b6,0;t0,0,3;").is("best 1 0", 3).is("best 0 0", NONE).is("best 1 1", 120).is("best 0 1", NONE);
        laid("s4,0;b6,2;").is("best 0 0", NONE).is("best 0 1", NONE);
        laid("s4,0;m2;b6,0;").is("best 0 0", NONE).is("best 0 1", NONE);
        // One yard more, beside another one or not, and he falls in his own turn.
        laid("s2,5;s1,5;x1,9;r3;b1,0;b9,0;t1,0,1;t0,2,2;").is("best 0 0", NONE).is("best 0 1", NONE);
        // He forfeits as it is, and does so with any turn more.
        laid("s1,5;b1,1;b6,0;t0,0,0;").is("bearer 0 4", 0).is("best 0 0", NONE);
    }

    @Of("SAFE: the first BEARER such that, had he no STRENGTH, it would STAND somewhere; none.")
    static void safest() {
        laid("s1,0;b6,0;b6,0;t0,0,0;t1,0,0;").is("safe", NONE);
        laid("s1,0;m2;b6,0;b6,0;b6,0;t1,0,0;t2,0,0;").is("safe", 1);
        laid("s1,0;" + times(6, "b6,0;") + "t5,0,0;").is("safe", 5);
        laid("s1,0;b6,0;t0,0,0;").is("safe", 0);
        // It stands as it is.
        laid("s1,0;b6,0;b6,0;").is("safe", 0);
        // At the last yard alone.
        laid("s9,0;b6,0;b6,0;t0,0,7;t1,0,8;").is("safe", 1);
        // All six, each told for each of 120 yards.
        laid(times(4, "s30,0;") + times(6, "b60,0;"))
            .then("bear 0 0 119; bear 1 0 119; bear 2 0 119; bear 3 0 119; bear 4 0 119; bear 5 0 119").is("safe", NONE)
            .is("stands", NONE).then("leave 0; leave 0; leave 0; leave 0; leave 0").is("safe", 5);
    }

    @Of("NEEDED: of sets of BEARERS such that, if they were to bear all yards and nobody else any, it would never STAND,"
        + " that of fewest, of several the lowest (bits); none.")
    static void fewest() {
        laid("s10,1;b1,0;").is("needed", NONE);
        laid("s10,0;b1,0;").is("needed", 1);
        laid("s10,0;b1,0;b1,0;b1,0;").is("needed", 1);
        laid("s10,1;" + times(5, "b1,0;") + "b2,0;").is("needed", 32);
        laid("s10,1;b1,0;b1,0;b1,0;").is("needed", 3);
        laid("s10,0;m3;" + times(4, "b1,0;")).is("needed", 7);
        laid("s10,0;m3;b1,0;b1,0;").is("needed", NONE);
        // 10 by six, cut, is 1 a yard; by five it would be 2.
        laid("s10,4;" + times(6, "b1,1;")).is("needed", 63);
        laid("s10,4;" + times(5, "b1,1;")).is("needed", NONE);
        laid(times(4, "s30,0;") + "b11,0;b12,0;").is("needed", 2);
    }

    @Of("each bears as far as his STRENGTH lasts (alone; TURNS, M do not matter), then the next one:")
    static void asFarAsItLasts() {
        laid("s9,4;b1,0;").is("far -1", 2);
        laid("s9,4;b1,0;b1,0;").is("far -1", 4);
        laid("s9,2;b1,0;b1,0;").is("far -1", 6);
        laid("s9,4;m3;b1,2;t0,5,5;t0,8,8;").is("far -1", 2);
        // Twins go alone, and have nothing of one another.
        laid("s9,5;b1,3;b1,3;t0,0,8;t1,0,8;").is("far -1", 2);
        laid("s9,4;b1,1;b1,1;").is("far -1", 2);
    }

    @Of("of all orders that by which it comes farthest, of several the first (by who is first, the lowest, then ..):"
        + " how many yards; who is the k-th.")
    static void farthest() {
        Farm f = laid("s30,0;" + times(6, "b1,0;")).is("far -1", 30);
        for (int k = 0; k < 6; k++) f.is("far " + k, k);
        f.is("far 6", BAD).is("far -2", BAD);
        // 18 of 10: nobody comes anywhere.
        laid("s5,5;r3;b1,1;b1,1;").is("far -1", 0).is("far 0", 0).is("far 1", 1).is("far 2", BAD);
        laid(times(4, "s30,0;") + "b60,0;").is("far -1", 120).is("far 0", 0).is("far 1", BAD);
        laid(times(4, "s30,0;") + "b12,0;").is("far -1", 120);
        laid(times(4, "s30,0;") + "b11,0;").is("far -1", 110);
        // 3 of 1 and one of 6, then three of 6; the other way round one less.
        laid("s3,0;s10,5;b2,0;b1,0;").is("far -1", 7).is("far 0", 1).is("far 1", 0);
    }

    @Of("SON: by how many more yards, were a BEARER stronger by x (0 to 99).")
    static void stronger() {
        laid("s3,4;b1,0;").is("son 0 0", 0).is("son 0 4", 0).is("son 0 5", 1).is("son 0 99", 1).is("son 0 100", BAD)
            .is("son 0 -1", BAD).is("far -1", 2).is("bearer 0 0", 10);
        laid(times(4, "s30,0;") + "b1,0;").is("son 0 98", 98).is("son 0 99", 99).is("far -1", 10);
        laid("s1,0;b1,0;").is("son 0 99", 0);
        laid("s30,0;b1,0;b1,1;").is("son 0 2", 2).is("son 1 2", 1).is("son 1 1", 0);
        laid(times(4, "s30,0;") + "b60,0;").is("son 0 99", 0);
    }

    @Of("were the border behind STRETCH k moved up by d yards (1 to 9; down: told as below 0), and 9999:")
    static void border() {
        Farm f = laid("s10,0;s10,0;x1,2;b60,0;t0,0,19;").is("cairn 0 0 9", 9999 - 540).is("cairn 0 0 -9", 9999 + 540)
            .is("cairn 0 0 1", 9999 - 60).is("cairn 0 0 -1", 9999 + 60);
        for (String d : new String[] {"0", "10", "-10", "low", "high"}) f.is("cairn 0 0 " + d, BAD);
        f.is("yard 9 0", 0).is("yard 10 0", 1).is("bearer 0 3", 1800);
        laid("s10,0;s10,0;b60,0;t0,0,19;").is("cairn 0 0 9", 9999);
        // Strength that is just enough now: by a steep yard more he would fall at the last one, and lose 16800.
        laid("s30,0;x0,9;s10,1;b5,0;t0,0,39;").is("bearer 0 3", 16800).is("cairn 0 0 -1", 9999 - 16800)
            .is("cairn 0 0 1", 9999 + 480);
        // The stretch behind the next one stays where it is.
        laid("s3,0;s3,0;s3,0;b6,0;t0,0,8;x1,5;x2,2;").is("cairn 0 0 1", 9999 - 240).is("cairn 0 1 2", 9999 + 360);
        // A stretch of more than 30 yards is not told of as refused here.
        laid("s30,0;s10,0;b60,0;t0,0,39;x1,2;").is("cairn 0 0 9", 9999 - 540);
    }

    @Of("NO, if a STRETCH would be of no yard then, or k is the last one.")
    static void noYardLeft() {
        laid("s9,0;s10,0;b60,0;").is("cairn 0 0 -8", 9999).is("cairn 0 0 -9", NO).is("cairn 0 0 9", 9999);
        laid("s10,0;s9,0;b60,0;").is("cairn 0 0 8", 9999).is("cairn 0 0 9", NO).is("cairn 0 0 -9", 9999);
        laid("s1,0;s1,0;b60,0;").is("cairn 0 0 1", NO).is("cairn 0 0 -1", NO);
        laid("s2,0;s1,0;b60,0;").is("cairn 0 0 1", NO).is("cairn 0 0 -1", 9999).is("cairn 0 0 -2", NO);
        laid("s10,0;b60,0;").is("cairn 0 0 1", NO).is("cairn 0 0 -1", NO).is("cairn 0 1 1", BAD);
        laid(times(6, "s3,0;") + "b60,0;").is("cairn 0 4 2", 9999).is("cairn 0 4 3", NO).is("cairn 0 5 1", NO)
            .is("cairn 0 5 -1", NO).is("cairn 0 6 1", BAD).is("cairn 0 -1 1", BAD);
    }

    @Of("HEIR by a law: 0 who has most ACRES; 1 who bore most yards, forfeited or not, HIRED or not; 2 who spent most"
        + " STRENGTH; of several the lowest.")
    static void heirs() {
        laid("s3,0;b6,0;b6,0;").is("heir 0", 0).is("heir 1", 0).is("heir 2", 0);
        laid("s3,0;b6,0;b6,0;b6,0;t1,0,2;t2,0,2;").is("heir 0", 1).is("heir 1", 1).is("heir 2", 1);
        laid("s3,0;" + times(6, "b6,0;") + "t5,0,2;").is("heir 0", 5).is("heir 1", 5).is("heir 2", 5);
        // b1 is hired and bears most; b2 falls (6 of 10, then 6 of 4), and it stands there.
        laid("s3,0;s2,5;s1,0;b6,0;b6,2;b1,0;t1,0,2;t2,3,4;t0,5,5;").is("stands", 4).is("heir 0", 0).is("heir 1", 1)
            .is("heir 2", 2);
        // b0 bears 4 yards, falls at the last one, and has forfeited.
        laid("s3,0;s2,5;b1,0;b6,0;t0,0,4;t1,4,4;").is("bearer 0 4", 4).is("heir 0", 1).is("heir 1", 0).is("heir 2", 0);
    }

    // ---- What it is, 4: choices, prints

    @Of("RESTS of two unlike BEARERS")
    static void unlike() {
        Farm f = laid("s1,0;" + times(6, "b6,0;"));
        for (int i = 0; i < 6; i++) {
            for (int j = 0; j < 6; j++) {
                f.is("rests " + i + " " + j + " 0", i == j ? BAD : 1).is("rests " + i + " " + j + " 1", i == j ? BAD : 0);
            }
        }
        laid(SMALLEST).is("rests 0 0 0", BAD).is("rests 0 1 0", BAD).is("rests 1 0 0", BAD);
    }

    @Of("(costs, STUMBLING as at 2, M does not matter): one has 60 of each yard he bears alone, 30 of each that both bear"
        + " (HIRED, forfeited or not);")
    static void hiredOrNot() {
        // Alone 120 and 240, both 60 and 120 each: (0, 1), (1, 0) and (1, 1) rest; so too if M is 3, if one is hired.
        laid("s2,0;s4,0;b6,0;b6,0;").is("rests 0 1 0", 3).is("rests 0 1 1", 1);
        laid("s2,0;s4,0;m3;b6,2;b6,0;t0,0,1;").is("rests 0 1 0", 3).is("rests 1 0 1", 1);
        // The weak one falls at the third yard of two (9 of 10 alone, 4 together): 60 both ways.
        laid("s6,5;s6,5;r3;b1,0;b60,0;").is("rests 0 1 0", 2).is("rests 0 1 1", 1);
        // Where he falls at the second yard a stretch of six is no better than one of three: (0, 0) and (1, 0) rest.
        laid("s6,5;s3,5;r3;b1,0;b60,0;").is("rests 0 1 0", 2).is("rests 0 1 1", 0).is("rests 1 0 0", 2);
        // Each stretch by its own slope: the steep yard (12 of 10) nobody bears alone.
        laid("s1,5;s2,0;b1,1;b1,1;").is("rests 0 1 0", 1).is("rests 0 1 1", 9);
        // With his strength at first: what he spends in his turns does not matter.
        laid("s6,5;s6,5;r3;b1,0;b60,0;t0,0,0;").is("rests 0 1 0", 2).is("rests 0 1 1", 1);
    }

    @Of("in how many choices neither would have more by another STRETCH: how many; the first (by the first one's, then"
        + " the other one's) as 8 times the one and the other; none.")
    static void choices() {
        laid("s1,0;b6,0;b6,0;").is("rests 0 1 0", 1).is("rests 0 1 1", 0);
        // All but those of both alike.
        laid(times(6, "s1,0;") + "b6,0;b6,0;").is("rests 0 1 0", 30).is("rests 0 1 1", 1);
        laid(times(5, "s1,0;") + "s9,0;b6,0;b6,0;").is("rests 0 1 0", 1).is("rests 0 1 1", 8 * 5 + 5);
        // Alone they bear nothing (18 of 10), together a yard (9 of 10): both alike rest.
        laid("s1,5;s1,5;r3;b1,1;b1,1;").is("rests 0 1 0", 2).is("rests 0 1 1", 0);
        // The weak one has 90 beside the strong one, who has more alone: they never rest.
        laid("s6,5;s6,5;b1,0;b60,0;").is("rests 0 1 0", 0).is("rests 0 1 1", NONE).is("rests 1 0 1", NONE);
        // The first one's comes first: (0, 1) and (1, 0) rest, 1 and 8.
        laid("s4,0;s4,0;b6,0;b6,0;").is("rests 0 1 0", 2).is("rests 0 1 1", 1);
    }

    @Of("PRINTS (8 at most): that n (0 to 6) bore yard y.")
    static void eightPrints() {
        Farm f = laid("s3,0;b6,0;").is("count 6", 0);
        for (int n = 1; n <= 8; n++) f.is("print " + n % 3 + " " + n % 7, n).is("count 6", n);
        f.is("print 0 0", FULL).is("count 6", 8).is("forget", 8).is("print 0 0", 1);
        laid("s3,0;b6,0;").is("print 0 -1", BAD).is("print 0 7", BAD).is("print 0 0", 1).is("print 0 6", 2)
            .is("print -1 0", BAD).is("print 3 0", BAD).is("print 2 0", 3).is("count 6", 3);
        laid(times(4, "s30,0;") + "b6,0;").is("print 119 0", 1).is("print 120 0", BAD);
        // Each of the eight counts, the last one too.
        laid("s3,0;b6,0;t0,0,2;").then(times(7, "print 0 1; ")).is("failed", 64).then("print 2 0").is("failed", 0);
        laid("s3,0;b6,0;t0,0,2;").then("print 2 0; " + times(7, "print 0 1; ")).is("failed", 0);
    }

    @Of("FAILED: those BEARERS (bits) by whom alone, had he no STRENGTH, all PRINTS are so; and 64, if they are so as it"
        + " is.")
    static void failing() {
        laid("s1,0;b6,0;").is("failed", 1 + 64);
        laid("s1,0;" + times(6, "b6,0;")).is("failed", 63 + 64);
        String six = "s1,0;" + times(6, "b6,0;") + "t0,0,0;t1,0,0;t2,0,0;t3,0,0;t4,0,0;t5,0,0;";
        laid(six).then("print 0 6").is("failed", 64);
        laid(six).then("print 0 5").is("failed", 63);
        laid(six).then("print 0 4").is("failed", 0);
        laid(six).then("print 0 0").is("failed", 0);
        laid("s1,0;m3;b6,0;b6,0;b6,0;t0,0,0;t1,0,0;t2,0,0;").then("print 0 0").is("failed", 7);
        laid(six).then("print 0 5; print 0 6").is("failed", 0);
        // Each print is of its own yard, the last yard too.
        laid("s3,0;b6,0;t0,0,1;").then("print 2 0").is("failed", 1 + 64).then("print 1 1").is("failed", 64);
    }

    @Of("ODDS: each of the first n TURNS (n 0 to 5; all, if there are fewer) is not there by the chance of x (0 to 10) of"
        + " ten for itself: the chance that it never STANDS, in lowest terms.")
    static void chances() {
        String six = "s6,0;b6,0;t0,0,0;t0,1,1;t0,2,2;t0,3,3;t0,4,4;t0,5,5;";
        int above = 1, below = 1;
        for (int n = 0; n <= 5; n++, above *= 9, below *= 10) {
            laid(six).is("odds " + n + " 1 0", above).is("odds " + n + " 1 1", below);
        }
        laid(six).is("odds 5 10 0", 0).is("odds 5 10 1", 1).is("odds 5 0 0", 1).is("odds 5 0 1", 1)
            .is("odds 0 10 0", 1).is("odds 0 10 1", 1).is("odds 5 9 0", 1).is("odds 5 9 1", 100000)
            .is("odds 5 5 0", 1).is("odds 5 5 1", 32).is("odds 6 1 0", BAD).is("odds -1 1 0", BAD)
            .is("odds 5 11 0", BAD).is("odds 5 -1 0", BAD);
        // Each for itself: one of two is enough; both are needed.
        laid("s2,0;b6,0;b6,0;t0,0,1;t1,0,1;").is("odds 2 3 0", 91).is("odds 2 3 1", 100);
        laid("s2,0;m2;b6,0;b6,0;t0,0,1;t1,0,1;").is("odds 2 3 0", 49).is("odds 2 3 1", 100);
        // Fewer than n: all of them; none at all.
        laid("s1,0;b6,0;t0,0,0;").is("odds 1 3 0", 7).is("odds 2 3 0", 7).is("odds 5 3 0", 7).is("odds 5 3 1", 10);
        laid("s1,0;b6,0;").is("odds 5 3 0", 0).is("odds 5 3 1", 1).is("odds 0 0 0", 0).is("odds 0 0 1", 1);
        laid("s4,0;b6,0;t0,0,0;t0,1,1;t0,2,2;t0,3,3;").is("odds 4 1 1", 10000).is("odds 5 1 1", 10000);
    }

    @Of("A RAINY DAY by z (0 to 9999): at yard y it costs ((q times q) modulo 65521) modulo 3 more")
    static void rainyDay() {
        // By z = 9999 the first six yards cost 0, 2, 0, 1, 1, 2 more, by z = 0 they cost 1, 0, 0, 0, 2, 2 more.
        laid("s5,0;b1,0;t0,0,4;").is("rain 9999 0", NONE).is("rain 0 0", NONE);
        laid("s6,0;b1,0;t0,0,5;").is("rain 9999 0", 5).is("rain 0 0", 5).is("rain 10000 0", BAD).is("rain -1 0", BAD);
        laid("s6,0;b1,1;t0,0,5;").is("rain 9999 0", 3).is("rain 0 0", 4).is("stands", 5);
        // Far up, where q times q is beyond an int: 2 more at yard 119 by 9999 and 9991, none by 9994.
        laid(times(3, "s30,0;") + "s29,0;s1,4;b60,0;b1,1;").then("bear 0 0 118; bear 1 119 119").is("stands", NONE)
            .is("rain 9999 0", 119).is("rain 9991 0", 119).is("rain 9994 0", NONE);
    }

    @Of("(ahead of KIND, as R does), q being 7919 z, 6151 y and 1 together:")
    static void drawnAheadOfKind() {
        // By z = 0: 1, 0, 0, 0, 2 more, on top of R. Of 20, twice 3, 2, 2, 2 leave 2, twice 4 are too much.
        laid("s5,0;r1;b2,1;t0,0,4;").is("rain 0 0", 4).is("stands", NONE);
        laid("s4,0;r1;b2,1;t0,0,3;").is("rain 0 0", NONE);
        // Two pay half of 3, 2, 2, 2, 4, 4, 4: 10, cut; two twins half of what is 1 less: 1 each time.
        laid("s9,1;b1,0;b1,0;t0,0,8;t1,0,8;").is("rain 0 0", 7);
        laid("s9,1;b1,3;b1,3;t0,0,8;t1,0,8;").is("rain 0 0", NONE);
        // By z = 4: 1, 2, 2, 1, 2 more. 2, 3, 3, 2 are just 10.
        laid("s4,0;b1,0;t0,0,3;").is("rain 4 0", NONE);
        laid("s5,0;b1,0;t0,0,4;").is("rain 4 0", 4);
    }

    @Of("the yard at which it STANDS (NONE: never); who is HEIR by law 0.")
    static void rainyHeir() {
        laid("s5,0;r1;b1,0;b2,0;t0,0,4;t1,4,4;").is("heir 0", 0).is("rain 0 1", 1).is("rain 0 0", NONE).is("heir 0", 0);
        laid("s5,0;b1,0;b2,0;").is("rain 0 0", 0).is("rain 0 1", 0);
        laid("s5,0;b1,0;b2,0;t0,0,4;t1,0,4;").is("rain 0 1", 0);
    }

    @Of("KEPT are TURNS: 2 at most.")
    static void twoKept() {
        laid("s4,0;b6,0;t0,0,0;").is("keep", 1).then("bear 0 1 1").is("keep", 2).then("bear 0 2 2").is("keep", FULL)
            .is("count 8", 2).is("count 5", 3).is("back", 1).is("count 5", 2).is("keep", 2).is("keep", FULL)
            .is("back", 1).is("back", 0).is("count 5", 1).is("back", NO).is("count 5", 1);
        // No turns, and nine of them.
        laid("s4,0;b6,0;").is("keep", 1).then("bear 0 0 0").is("back", 0).is("count 5", 0).is("stands", 0);
        laid("s4,0;b6,0;" + times(8, "t0,0,0;") + "t0,1,3;").is("keep", 1).then(times(9, "leave 0; ")).is("count 5", 0)
            .is("back", 0).is("count 5", 9).is("turn 8 2", 3).is("stands", NONE);
    }

    // ---- refused calls: nothing changes

    /** All that can be seen of it, in the end also what it can undo, what is kept and what THE TEXT lays. */
    static List<Integer> seen(Farm f) {
        List<Integer> all = new ArrayList<>();
        look(f, all);
        for (String call : new String[] {"safe", "needed", "failed", "far -1", "far 0", "rain 0 0", "rain 7 1",
            "odds 2 3 0", "odds 2 3 1", "best 0 0", "best 0 1", "heir 0", "heir 1", "heir 2", "cairn 0 0 1"}) {
            all.add(f.ask(call));
        }
        for (int left = f.ask("count 7"); left > 0; left--) {
            all.add(f.ask("undo"));
            lookAtTurns(f, all, 3);
        }
        for (int left = f.ask("count 8"); left > 0; left--) {
            all.add(f.ask("back"));
            lookAtTurns(f, all, 3);
        }
        all.add(f.ask("fault"));
        all.add(f.ask("lay"));
        look(f, all);
        return all;
    }

    static void look(Farm f, List<Integer> all) {
        for (int w = 0; w < 10; w++) all.add(f.ask("count " + w));
        all.add(f.ask("stands"));
        int yards = Math.min(4, f.ask("count 1"));
        for (int y = 0; y < yards; y++) {
            for (int w = 0; w < 5; w++) all.add(f.ask("yard " + y + " " + w));
        }
        int bearers = Math.min(2, f.ask("count 2"));
        for (int i = 0; i < bearers; i++) {
            for (int w = 0; w < 6; w++) all.add(f.ask("bearer " + i + " " + w));
            all.add(f.ask("share " + i + " 0"));
            all.add(f.ask("share " + i + " 1"));
        }
        lookAtTurns(f, all, 9);
    }

    /** The last ones of the turns, as many as are asked for. */
    static void lookAtTurns(Farm f, List<Integer> all, int many) {
        int turns = f.ask("count 5");
        all.add(turns);
        for (int k = Math.max(0, turns - many); k < turns; k++) {
            for (int w = 0; w < 3; w++) all.add(f.ask("turn " + k + " " + w));
        }
    }

    /** States in which calls are refused; made anew for each call, so that one can be held against another. */
    static Farm made(String state) {
        switch (state) {
            case "new": return fresh();
            // Nothing to undo, nothing kept, no prints, no text left.
            case "small": return laid(SMALL).then("wipe");
            // Some of each, and a text that is sound, but not what is laid.
            case "busy": return laid(SMALL).then("bear 1 0 1; leave 0; bear 0 0 3; keep; print 0 1; print 3 2; bear 1 5 9")
                .then("wipe").writes("s3,2;b7,1;t0,0,1;");
            // The same, with a text that has a fault.
            case "faulty": return laid(SMALL).then("bear 1 0 1; keep; print 0 1; wipe").writes("s3,2;b7,1;t1,0,1;");
            // As full as can be: 9 turns, 8 undone, 8 prints, 2 kept, 200 letters.
            case "full": return laid("s2,0;s2,1;b4,0;b4,3;t0,0,2;t1,2,3;" + times(54, "m1;") + "m01;m01;")
                .then(times(8, "bear 0 0 1; ") + "keep; leave 0; bear 1 1 3; keep; " + times(8, "print 0 1; "));
            // It stands at once; its only one is hired.
            case "hired": return laid("s4,0;s2,0;b6,2;").then("keep; print 0 0; bear 0 1 1; wipe").writes("s3,2;b7,1;");
            default: throw new IllegalArgumentException(state);
        }
    }

    static final Map<String, List<Integer>> UNTOUCHED = new HashMap<>();

    /** The call answers that, and all that can be seen is as it is without the call. */
    static void refused(String state, int want, String... calls) {
        List<Integer> before = UNTOUCHED.computeIfAbsent(state, s -> seen(made(s)));
        for (String call : calls) {
            Farm f = made(state);
            f.story = state;
            f.is(call, want);
            List<Integer> after = seen(f);
            checks++;
            if (!after.equals(before)) {
                wrong++;
                System.out.println("[" + sentence + "] " + state + ": " + call + " changed " + before + " to " + after);
            }
        }
    }

    /** In each of an argument's places: one below the lowest, one above the highest, the smallest and the largest int. */
    static void refusedBeside(String call, int[]... bounds) {
        for (int at = 0; at < bounds.length; at++) {
            for (String odd : new String[] {"" + (bounds[at][0] - 1), "" + (bounds[at][1] + 1), "low", "high"}) {
                StringBuilder asked = new StringBuilder(call);
                for (int k = 0; k < bounds.length; k++) asked.append(' ').append(k == at ? odd : "" + bounds[k][2]);
                refused("busy", BAD, asked.toString());
            }
        }
        // The lowest and the highest of each are taken.
        for (int at = 0; at < bounds.length; at++) {
            for (int end = 0; end < 2; end++) {
                StringBuilder asked = new StringBuilder(call);
                for (int k = 0; k < bounds.length; k++) asked.append(' ').append(bounds[k][k == at ? end : 2]);
                Farm f = made("busy");
                int got = f.ask(asked.toString());
                due(asked + " is taken, " + got, got == BAD ? 0 : 1, 1);
            }
        }
    }

    /** The lowest and the highest number of an argument, and one that is taken beside any other argument. */
    static int[] from(int low, int high, int usual) {
        return new int[] {low, high, usual};
    }

    @Of("BAD: a number is none that is told (STRETCHES, BEARERS, TURNS: such as there are; yards of the hill).")
    static void suchAsThereAre() {
        // Six of each, nine turns, 120 yards; one of each, no turn, one yard.
        Farm most = laid(LARGEST);
        for (String call : new String[] {"yard 119 0", "bearer 5 0", "share 5 0", "turn 8 0", "best 5 0", "far 5", "son 5 0",
            "cairn 5 4 1", "rests 5 0 0", "rests 0 5 0", "print 119 0", "leave 8", "bear 5 0 0"}) {
            due("largest: " + call, most.ask(call) == BAD ? 0 : 1, 1);
        }
        most = laid(LARGEST);
        for (String call : new String[] {"yard 120 0", "bearer 6 0", "share 6 0", "turn 9 0", "best 6 0", "far 6", "son 6 0",
            "cairn 6 0 1", "cairn 0 6 1", "rests 6 0 0", "rests 0 6 0", "print 120 0", "leave 9", "bear 6 0 0"}) {
            most.is(call, BAD);
        }
        Farm least = laid(SMALLEST);
        for (String call : new String[] {"yard 1 0", "bearer 1 0", "share 1 0", "turn 0 0", "best 1 0", "far 1", "son 1 0",
            "cairn 1 0 1", "cairn 0 1 1", "rests 1 0 0", "rests 0 1 0", "print 1 0", "leave 0", "bear 1 0 0"}) {
            least.is(call, BAD);
        }
        // By turns as they are: the third one is there, left out, undone.
        laid(SMALL).is("turn 2 0", BAD).then("bear 0 0 0").is("turn 2 0", 0).then("leave 0").is("turn 2 0", BAD)
            .then("undo").is("turn 2 0", 0).then("undo").is("turn 2 0", BAD);
    }

    @Of("NO: not as things stand. NONE: there is none. FULL.")
    static void answers() {
        due("BAD", ShoulderHeirs.BAD, -1);
        due("NO", ShoulderHeirs.NO, -2);
        due("FULL", ShoulderHeirs.FULL, -3);
        due("NONE", ShoulderHeirs.NONE, -4);
        refused("small", NO, "lay", "undo", "back", "cairn 0 1 1", "cairn 0 0 2", "cairn 0 0 -2");
        refused("small", NONE, "fault", "stands", "bearer 0 4", "bearer 1 4", "rain 0 0");
        refused("hired", NONE, "fault", "bearer 0 4", "best 0 0", "best 0 1");
        refused("full", FULL, "write 65", "bear 0 0 0", "print 0 0", "keep");
        laid("s6,5;s6,5;b1,0;b60,0;t0,0,9;t1,0,11;").is("safe", 1).is("rests 0 1 1", NONE).is("stands", NONE)
            .is("safe", 1);
        laid("s9,5;b1,0;b1,0;").is("needed", NONE).is("needed", NONE);
    }

    @Of("Of several the first; nothing changes then.")
    static void firstOfSeveral() {
        // BAD and FULL.
        refused("full", BAD, "write 31", "write 127", "bear 2 0 0", "bear 0 1 0", "bear 0 0 120", "print 4 0", "print 0 7");
        // BAD and NO: the last stretch, a stretch of no yard.
        refused("busy", BAD, "cairn 2 1 1", "cairn 0 1 0", "cairn 0 1 10", "cairn -1 0 9");
        // BAD and NONE.
        refused("hired", BAD, "best 0 2", "best 0 -1", "best 1 0");
    }

    // ---- Promises 1 to 29: what each call takes and refuses

    @Of("`ShoulderHeirs()`: As told.")
    static void newObject() {
        Farm f = fresh();
        int[] counts = {3, 30, 5, 1, 0, 5, 0, 0, 0, 0};
        for (int w = 0; w < counts.length; w++) f.is("count " + w, counts[w]);
        int[][] turns = {{0, 0, 9}, {1, 4, 12}, {2, 10, 20}, {3, 18, 29}, {4, 18, 29}};
        int[][] bearers = {{60, 0}, {30, 1}, {90, 2}, {40, 3}, {40, 3}};
        for (int k = 0; k < 5; k++) {
            for (int w = 0; w < 3; w++) f.is("turn " + k + " " + w, turns[k][w]);
            for (int w = 0; w < 2; w++) f.is("bearer " + k + " " + w, bearers[k][w]);
        }
        int[][] edges = {{0, 0, 0, 1}, {9, 0, 0, 1}, {10, 1, 3, 2}, {17, 1, 3, 2}, {18, 2, 1, 1}, {29, 2, 1, 1}};
        for (int[] e : edges) {
            for (int w = 0; w < 3; w++) f.is("yard " + e[0] + " " + w, e[w + 1]);
        }
        f.is("yard 30 0", BAD).is("fault", NONE).is("stands", NONE);
        refused("new", NO, "lay", "undo", "back");
        refused("new", BAD, "turn 5 0", "bearer 5 0", "yard 30 0", "leave 5", "print 30 0");
        // Two objects have nothing of one another.
        Farm other = fresh();
        f.then("leave 0; write 65; print 0 1; keep");
        for (int w = 0; w < counts.length; w++) other.is("count " + w, counts[w]);
    }

    @Of("A letter (32 to 126, as in ASCII) comes behind THE TEXT: how long it is. BAD; FULL.")
    static void write() {
        refused("busy", BAD, "write 31", "write 127", "write 0", "write -1", "write 128", "write 255", "write 371",
            "write 65651", "write low", "write high");
        refused("full", FULL, "write 32", "write 126", "write 59");
        Farm f = fresh().is("write 32", 1).is("write 126", 2);
        for (int c = 33; c < 126; c++) f.is("write " + c, c - 30);
        f.is("count 9", 95).is("wipe", 95).is("write 115", 1);
    }

    @Of("THE TEXT is empty: how long it was.")
    static void wipe() {
        fresh().is("wipe", 0).is("wipe", 0).is("count 9", 0);
        told("s1,0;").is("wipe", 5).is("count 9", 0).is("fault", NONE).is("lay", NO).is("wipe", 0);
        made("full").is("wipe", 200).is("write 59", 1).is("fault", 0);
        // What is laid stays laid.
        told("s1,0;b1,0;").then("lay; wipe").is("count 1", 1).is("count 2", 1);
        refused("small", 0, "wipe");
    }

    @Of("`int fault()`: FAULT. NONE.")
    static void fault() {
        refused("small", NONE, "fault");
        refused("busy", NONE, "fault");
        refused("faulty", 10, "fault");
        refused("full", NONE, "fault");
    }

    @Of("LAID: how many yards the hill has; no PRINTS, nothing UNDONE, KEPT. NO.")
    static void lay() {
        refused("new", NO, "lay");
        refused("small", NO, "lay");
        refused("faulty", NO, "lay");
        made("busy").is("count 6", 2).is("count 7", 4).is("count 8", 1).is("lay", 3).is("count 6", 0).is("count 7", 0)
            .is("count 8", 0).is("forget", 0).is("undo", NO).is("back", NO).is("count 5", 1).is("count 9", 17);
        made("full").is("lay", 4).is("count 6", 0).is("count 7", 0).is("count 8", 0).is("count 9", 200).is("lay", 4);
        told(SMALLEST).is("lay", 1);
        told(LARGEST).is("lay", 120);
    }

    @Of("Of a yard: STRETCH (what = 0), slope (1), price (2), who is to bear it by TURNS, STUMBLED or not, as bits (3), who"
        + " bears it, as bits (4). BAD.")
    static void yard() {
        refusedBeside("yard", from(0, 3, 0), from(0, 4, 0));
        laid("s1,0;b1,0;").is("yard 0 3", 0).is("yard 0 4", 0);
        laid("s1,0;" + times(6, "b1,0;") + "t0,0,0;t1,0,0;t2,0,0;t3,0,0;t4,0,0;t5,0,0;").is("yard 0 3", 63)
            .is("yard 0 4", 63);
        laid("s1,5;b1,1;t0,0,0;").is("yard 0 3", 1).is("yard 0 4", 0);
    }

    @Of("Of a BEARER: STRENGTH at first (what = 0), KIND (1), STRENGTH left in the end (2), ACRES (3), the yard at which he"
        + " STUMBLES (4; NONE), how many yards he bears (5). BAD.")
    static void bearer() {
        refusedBeside("bearer", from(0, 1, 0), from(0, 5, 0));
        refused("hired", NONE, "bearer 0 4");
        laid("s1,0;b1,0;").is("bearer 0 2", 10).is("bearer 0 3", 0).is("bearer 0 4", NONE).is("bearer 0 5", 0);
        laid("s1,5;b1,1;t0,0,0;").is("bearer 0 4", 0);
        laid(times(4, "s30,0;") + "b60,0;b1,0;").then("bear 0 0 118; bear 1 119 119").is("bearer 0 5", 119)
            .then("bear 1 109 118").is("bearer 1 4", 119).is("bearer 1 5", 10);
    }

    @Of("The yard at which it STANDS. NONE: never.")
    static void stands() {
        laid("s2,0;b1,0;").is("stands", 0);
        laid("s2,0;b1,0;t0,0,0;").is("stands", 1);
        laid("s2,0;b1,0;t0,0,1;").is("stands", NONE);
        refused("small", NONE, "stands");
    }

    @Of("SHARE: above (part = 0), below (1). BAD.")
    static void share() {
        refusedBeside("share", from(0, 1, 0), from(0, 1, 0));
    }

    @Of("A TURN: BEARER (what = 0), A (1), B (2). BAD.")
    static void turn() {
        refusedBeside("turn", from(0, 3, 0), from(0, 2, 0));
        refused("full", BAD, "turn 9 0", "turn 10 0", "turn 8 3");
        refused("hired", BAD, "turn 1 0");
    }

    @Of("A TURN more (A, B 0 to 119): how many. BAD; FULL.")
    static void bear() {
        refusedBeside("bear", from(0, 1, 0), from(0, 3, 0), from(0, 119, 3));
        refused("busy", BAD, "bear 0 4 3", "bear 0 119 118", "bear 0 119 0", "bear 0 120 120", "bear 0 0 120",
            "bear 0 -1 -1", "bear 0 120 119", "bear low low low", "bear high high high", "bear 0 low high",
            "bear 0 high low", "bear 0 low low", "bear 0 high high");
        refused("full", FULL, "bear 0 0 0", "bear 1 119 119", "bear 0 0 119");
        laid("s4,0;b6,0;").is("bear 0 0 0", 1).is("bear 0 119 119", 2).is("bear 0 0 119", 3).is("bear 0 100 118", 4)
            .is("turn 1 1", 119).is("turn 1 2", 119).is("turn 2 1", 0).is("turn 2 2", 119).is("turn 3 1", 100);
        laid("s4,0;b6,0;" + times(8, "t0,0,0;")).is("bear 0 1 3", 9).is("stands", NONE).is("bear 0 0 0", FULL)
            .is("leave 0", 8).is("bear 0 0 0", 9).is("bear 0 0 0", FULL);
    }

    @Of("A TURN is left out: how many are left. BAD.")
    static void leave() {
        refusedBeside("leave", from(0, 3, 0));
        refused("full", BAD, "leave 9", "leave -1", "leave low", "leave high");
        Farm f = laid("s4,0;b6,0;" + times(9, "t0,0,0;")).is("leave 8", 8);
        for (int n = 7; n >= 0; n--) f.is("leave 0", n);
        f.is("leave 0", BAD).is("count 5", 0).is("count 7", 8).is("stands", 0);
    }

    @Of("UNDONE: how many more can be. NO.")
    static void undo() {
        refused("new", NO, "undo");
        refused("small", NO, "undo");
        Farm f = made("full").is("count 7", 8);
        for (int n = 7; n >= 0; n--) f.is("undo", n);
        f.is("undo", NO).is("count 7", 0);
        laid(SMALL).then("bear 0 0 0").is("undo", 0).is("undo", NO);
    }

    @Of("BEST: the TURN (what = 0), ACRES (1). NONE; BAD.")
    static void best() {
        refusedBeside("best", from(0, 1, 0), from(0, 1, 0));
        refused("hired", NONE, "best 0 0", "best 0 1");
    }

    @Of("`int safe()`: SAFE. NONE.")
    static void safe() {
        laid("s1,0;b6,0;b6,0;t0,0,0;t1,0,0;").is("safe", NONE).is("stands", NONE).is("bearer 0 2", 59);
        refused("small", 0, "safe");
    }

    @Of("NEEDED, as bits. NONE.")
    static void needed() {
        laid("s10,1;b1,0;t0,0,9;").is("needed", NONE).is("stands", 5).is("yard 9 3", 1);
        refused("small", 1, "needed");
    }

    @Of("FAR: yards (k = -1), who is the k-th. BAD.")
    static void far() {
        refusedBeside("far", from(-1, 1, 0));
        refused("hired", BAD, "far 1", "far -2");
    }

    @Of("`int son(int i, int x)`: SON. BAD.")
    static void son() {
        refusedBeside("son", from(0, 1, 0), from(0, 99, 0));
    }

    @Of("CAIRN (d -9 to 9, but 0). BAD; NO.")
    static void cairn() {
        refusedBeside("cairn", from(0, 1, 0), from(0, 1, 0), from(-9, 9, 1));
        refused("busy", BAD, "cairn 0 0 0");
        refused("busy", NO, "cairn 0 1 1", "cairn 0 1 -1", "cairn 0 0 2", "cairn 0 0 -2", "cairn 1 0 9", "cairn 1 0 -9");
    }

    @Of("`int heir(int law)`: HEIR. BAD.")
    static void heir() {
        refusedBeside("heir", from(0, 2, 0));
    }

    @Of("RESTS: how many (what = 0), the first (1; NONE). BAD (alike, too).")
    static void rests() {
        refusedBeside("rests", from(0, 0, 0), from(1, 1, 1), from(0, 1, 0));
        refusedBeside("rests", from(1, 1, 1), from(0, 0, 0), from(0, 1, 0));
        refused("busy", BAD, "rests 0 0 0", "rests 1 1 1", "rests 2 2 0", "rests -1 -1 0", "rests low low 0",
            "rests high high 0");
    }

    @Of("A PRINT: how many. BAD; FULL.")
    static void print() {
        refusedBeside("print", from(0, 3, 0), from(0, 6, 0));
        refused("full", FULL, "print 0 0", "print 3 6", "print 0 1");
    }

    @Of("No PRINTS: how many there were.")
    static void forget() {
        fresh().is("forget", 0).is("forget", 0);
        made("busy").is("forget", 2).is("count 6", 0).is("forget", 0).is("failed", 3 + 64);
        made("full").is("forget", 8).is("count 6", 0).is("print 0 0", 1).is("forget", 1);
        refused("small", 0, "forget");
    }

    @Of("FAILED, as bits.")
    static void failed() {
        refused("small", 3 + 64, "failed");
        refused("new", 31 + 64, "failed");
    }

    @Of("ODDS: above (part = 0), below (1). BAD.")
    static void odds() {
        refusedBeside("odds", from(0, 5, 0), from(0, 10, 0), from(0, 1, 0));
    }

    @Of("A RAINY DAY: the yard (what = 0; NONE), the HEIR (1). BAD.")
    static void rain() {
        refusedBeside("rain", from(0, 9999, 0), from(0, 1, 0));
        refused("small", NONE, "rain 0 0", "rain 9999 0");
    }

    @Of("KEPT: how many. FULL.")
    static void keep() {
        refused("full", FULL, "keep");
        // What can be undone stays.
        made("busy").is("count 7", 4).is("keep", 2).is("count 7", 4).is("keep", FULL).is("count 7", 4).is("undo", 3);
    }

    @Of("As KEPT last: how many are left; nothing is UNDONE then. NO.")
    static void back() {
        refused("new", NO, "back");
        refused("small", NO, "back");
        made("full").is("count 7", 8).is("back", 1).is("count 7", 0).is("undo", NO).is("turn 8 1", 1).is("back", 0)
            .is("turn 8 1", 0).is("turn 8 2", 1).is("back", NO).is("count 5", 9);
        // Refused, it leaves what can be undone.
        laid(SMALL).then("bear 0 0 0").is("back", NO).is("count 7", 1).is("undo", 0);
    }

    @Of("How many: 0 STRETCHES, 1 yards, 2 BEARERS, 3 M, 4 R, 5 TURNS, 6 PRINTS, 7 that can be UNDONE, 8 KEPT, 9 letters of"
        + " THE TEXT. BAD.")
    static void count() {
        refusedBeside("count", from(0, 9, 0));
        int[] most = {6, 120, 6, 3, 3, 9, 8, 8, 2, 200}, least = {1, 1, 1, 1, 0, 0, 0, 0, 0, 10};
        Farm large = laid(LARGEST).then(times(9, "leave 0; bear 0 0 0; ") + times(9, "print 0 0; ") + times(3, "keep; "))
            .then("write 59");
        Farm small = laid(SMALLEST);
        for (int w = 0; w < 10; w++) {
            large.is("count " + w, most[w]);
            small.is("count " + w, least[w]);
        }
    }

    @Of("An object is used for at most 512 calls after it has been made; what later calls answer is free.")
    static void calls() {
        Farm f = laid("s2,0;b1,0;t0,0,1;");
        while (f.calls < 510) f.is("bear 0 0 0", 2).is("undo", 0);
        if (f.calls < 511) f.is("count 5", 1);
        f.is("stands", NONE);
        due("calls made", f.calls, 512);
    }

    /** Calls that only tell are no changes either. */
    @Of("Nothing is promised beyond the answers and state changes described above")
    static void tellingChangesNothing() {
        for (String call : new String[] {"fault", "yard 3 4", "bearer 1 3", "stands", "share 1 1", "turn 1 2", "best 0 0",
            "best 1 1", "safe", "needed", "far -1", "far 1", "son 1 99", "cairn 0 0 1", "cairn 1 0 -1", "heir 2",
            "rests 0 1 1", "failed", "odds 5 5 0", "odds 3 10 1", "rain 9999 0", "rain 4 1", "count 7"}) {
            refused("busy", made("busy").ask(call), call);
        }
    }

    static boolean stands(String document, String words) {
        return document.replaceAll("\\s+", " ").contains(words);
    }

    public static void main(String[] args) throws Exception {
        for (Method m : ShoulderHeirs.class.getDeclaredMethods()) {
            if (Modifier.isPublic(m.getModifiers())) FACE.put(m.getName(), m);
        }
        Method[] tests = Arrays.stream(BoundsTest.class.getDeclaredMethods())
            .filter(m -> m.isAnnotationPresent(Of.class)).toArray(Method[]::new);
        Arrays.sort(tests, (a, b) -> a.getName().compareTo(b.getName()));
        String document = args.length > 0 ? Files.readString(Path.of(args[0])) : "";
        for (Method test : tests) {
            sentence = test.getAnnotation(Of.class).value();
            if (args.length > 0) due("told in the document", stands(document, sentence) ? 1 : 0, 1);
            int before = checks;
            test.invoke(null);
            due("checks made", checks > before ? 1 : 0, 1);
        }
        System.out.println("BoundsTest: " + tests.length + " sentences, " + checks + " checks, " + wrong + " wrong");
        if (wrong > 0) System.exit(1);
    }
}
