import java.lang.reflect.Method;
import java.net.URL;
import java.net.URLClassLoader;
import java.nio.charset.StandardCharsets;
import java.nio.file.Files;
import java.nio.file.Path;
import java.util.ArrayDeque;
import java.util.ArrayList;
import java.util.HashMap;
import java.util.List;
import java.util.Map;
import java.util.Random;
import javax.tools.ToolProvider;

/**
 * The class made anew with room for few nodes, so that it throws away what nobody holds again and
 * again, gives up nodes of what is held and weaves them anew, and reads what is too big to be a node
 * run by run. It answers each call as the class itself does: that there is little room refuses none.
 */
public final class CrampedTest {
    private static final int FULL = -6;
    /** The text becomes four times as long; some of it is marked, cut, undone and heard. */
    private static final String ROUND = "takes 3 0 2;takes 4 1 2;takes 5 2 2;takes 6 3 2;mark 0 0 1 0 1;does 0 3;does 0 4;"
        + "does 0 5;does 0 6;takes 7 0 1;does 0 7;does 1 7;does 2 7;does 3 7;meet;mark 0 100 900 1 1;cut 1 50 200;undo 2;"
        + "point 3 70 90;meet;cursor 3 0;cursor 3 1;redo 2;insert 2 0 5 5;clientOf 2 1;undo 1;meet";
    private static final int CALLS = 250;

    private final Random random;
    private final int mood;
    private final ArrayDeque<String> coming = new ArrayDeque<>();
    private Side cramped;
    private Side roomy;

    private static int madeRoom;
    private static int read;

    private CrampedTest(long seed) {
        random = new Random(seed);
        mood = (int) (seed % 3);
    }

    public static void main(String[] args) throws Exception {
        for (int some : new int[] {1000, 1200, 1500, 2500, 4000}) {
            Class<?> little = littleRoom(some, 15);
            for (int seed = 0; seed < 12; seed++) new CrampedTest(seed).go(little, some + " nodes, seed " + seed);
        }
        rounds(littleRoom(12000, 15), "12000 nodes");
        System.out.println("room made " + madeRoom + ", read " + read);
        Check.that("room was made again and again: " + madeRoom, madeRoom >= 1000);
        Check.that("much was too big to be a node: " + read, read >= 500);
        tooManyWorks();
        Check.end();
    }

    /** The class with room for so many nodes, and works of so many bits. */
    private static Class<?> littleRoom(int some, int bits) throws Exception {
        String source = new String(Files.readAllBytes(Path.of("src/main/java/EditsMeet.java")), StandardCharsets.US_ASCII);
        String cramped = source;
        String[] told = {"NODES_MOST = 1700000;", "NODES_MOST = 1025 + " + some + ";", "ROOM_AHEAD = 1 << 13;",
            "ROOM_AHEAD = 400;", "ROOM_WANTED = 1 << 18;", "ROOM_WANTED = 900;", "SMALL_LEAVES = 254;", "SMALL_LEAVES = 4;",
            "SMALL_NODES = 1000;", "SMALL_NODES = 10;", "WORK_BITS = 16;", "WORK_BITS = " + bits + ";", "HUGE_NODES = 60000;", "HUGE_NODES = 100;"};
        for (int i = 0; i < told.length; i += 2) {
            Check.that("the source tells its room: " + told[i], source.indexOf(told[i]) > 0 && source.indexOf(told[i]) == source.lastIndexOf(told[i]));
            cramped = cramped.replace(told[i], told[i + 1]);
        }
        Path place = Files.createTempDirectory("cramped");
        Path file = place.resolve("EditsMeet.java");
        Files.write(file, cramped.getBytes(StandardCharsets.US_ASCII));
        int failed = ToolProvider.getSystemJavaCompiler().run(null, null, null, "-proc:none", "-d", place.toString(), file.toString());
        Check.due("compiled", failed, 0);
        Class<?> made = new URLClassLoader(new URL[] {place.toUri().toURL()}, null).loadClass("EditsMeet");
        made.getConstructor().newInstance();
        return made;
    }

    /** An object of one of both classes. */
    private static final class Side {
        final Object object;
        final Map<String, Method> methods = new HashMap<>();

        Side(Class<?> type) throws Exception {
            object = type.getConstructor().newInstance();
            for (Method method : type.getMethods()) methods.put(method.getName(), method);
        }

        int call(String told) throws Exception {
            String[] words = told.split(" ");
            Object[] numbers = new Object[words.length - 1];
            for (int i = 1; i < words.length; i++) numbers[i - 1] = Integer.parseInt(words[i]);
            return ((Number) methods.get(words[0]).invoke(object, numbers)).intValue();
        }

        /** All that can be asked, but for refusals. */
        String all() throws Exception {
            StringBuilder s = new StringBuilder();
            for (int c = 0; c < 5; c++) {
                int n = call("length " + c);
                s.append("\ntext ").append(n).append(' ').append(call("apart " + c + " 4"));
                for (int p = 0; p < n; p += 1 + n / 20) s.append(' ').append(call("text " + c + " " + p + " 0") + 100 * call("text " + c + " " + p + " 1"));
                for (int bit = 0; bit < 5; bit++) s.append(' ').append(call("marked " + c + " " + bit));
                for (int w = 0; w < 7 && c < 4; w++) s.append(' ').append(call("clientOf " + c + " " + w));
                for (int w = 0; w < 2 && c < 4; w++) s.append(' ').append(call("cursor " + c + " " + w));
            }
            for (int e = 0; e < 12; e++) {
                int n = call("of " + e + " 0");
                if (n == -4) continue;
                s.append("\nedit ").append(e);
                for (int w = 0; w < 6; w++) s.append(' ').append(call("of " + e + " " + w));
                for (int i = 0; i < n; i += 1 + n / 5) for (int w = 0; w < 4; w++) s.append(' ').append(call("part " + e + " " + i + " " + w));
                for (int i = 0; i < 120; i += 20) s.append(' ').append(call("spelled " + e + " " + i));
                for (int f = 0; f < 12; f++) s.append(' ').append(call("differ " + e + " " + f));
            }
            for (int w = 0; w < 8; w++) s.append(' ').append(call("status " + w));
            return s.toString();
        }

        int number(String part, String name) throws Exception {
            java.lang.reflect.Field field = object.getClass().getDeclaredField(part);
            field.setAccessible(true);
            java.lang.reflect.Field inside = field.get(object).getClass().getDeclaredField(name);
            inside.setAccessible(true);
            return inside.getInt(field.get(object));
        }
    }

    private void go(Class<?> little, String when) throws Exception {
        cramped = new Side(little);
        roomy = new Side(EditsMeet.class);
        boolean isAlike = true;
        for (int k = 0; k < CALLS && isAlike; k++) {
            String told = nextCall();
            int got = cramped.call(told);
            int due = roomy.call(told);
            Check.due(when + ", call " + k + ": " + told, got, due);
            if (cramped.number("reader", "coneSize") > 2) read++;
            isAlike = got == due && (k % 50 != 49 || cramped.all().equals(roomy.all()));
        }
        Check.that(when, isAlike);
        madeRoom += cramped.number("trees", "tidied");
    }

    /** Patterns that are laid over one another, and rounds that make a text of unlike letters four times as long. */
    private static void rounds(Class<?> little, String when) throws Exception {
        Side one = new Side(little);
        Side two = new Side(EditsMeet.class);
        int k = 0;
        for (String call : BigTest.patternsLaid(-5)) {
            String told = call.replaceAll("[(),]", " ").trim();
            Check.due(when + ", call " + k++ + " of the patterns: " + told, one.call(told), two.call(told));
        }
        String all = one.all();
        Check.that(when + ": patterns", all.equals(two.all()));
        for (String told : ROUND.split(";")) Check.due(when + ": " + told, one.call(told), two.call(told));
        Check.that(when + ": one round more", one.all().equals(two.all()));
    }

    private String nextCall() throws Exception {
        int c = random.nextInt(4);
        int n = cramped.call("length " + c);
        int p = random.nextInt(n + 1);
        if (coming.isEmpty() && random.nextInt(20) == 0) comingRound(cramped.call("length 0"));
        if (!coming.isEmpty()) return coming.remove();
        switch (random.nextInt(mood == 2 ? 22 : 16)) {
            case 0: case 1: return "insert " + c + " " + p + " " + random.nextInt(26) + " " + random.nextInt(16);
            case 2: return "cut " + c + " " + p + " " + (1 + random.nextInt(mood == 0 ? 30 : 3));
            case 3: case 4: return "mark " + c + " " + p + " " + (1 + random.nextInt(Math.max(1, n - p))) + " " + random.nextInt(4) + " " + random.nextInt(2);
            case 5: return "undo " + c;
            case 6: return "redo " + c;
            case 7: return "serve " + c;
            case 8: return "hear " + c;
            case 9: return "meet";
            case 10: return "takes " + random.nextInt(12) + " " + c + " " + random.nextInt(4);
            case 11: return "behind " + random.nextInt(12) + " " + random.nextInt(12) + " " + random.nextInt(12);
            case 12: return "over " + random.nextInt(12) + " " + random.nextInt(12) + " " + random.nextInt(12) + " " + random.nextInt(2);
            case 13: return "turned " + random.nextInt(12) + " " + random.nextInt(12) + " " + c;
            case 14: return random.nextBoolean() ? "image" : "back";
            case 15: return "point " + c + " " + p + " " + random.nextInt(n + 1);
            default: return "does " + c + " " + random.nextInt(8);
        }
    }

    /** The text becomes four times as long. */
    private void comingRound(int n) {
        if (n > 0 && n <= 60 && random.nextInt(3) == 0) {
            for (String told : ("meet;image;cut 0 0 " + n + ";takes 0 0 0;takes 1 0 2;behind 7 0 1;back").split(";")) coming.add(told);
        } else {
            for (int i = 0; i < 4; i++) coming.add("takes " + (3 + i) + " " + i + " 2");
            coming.add("mark 0 0 1 0 1");
            for (int i = 0; i < 4; i++) coming.add("does 0 " + (3 + i));
            coming.add("takes 7 0 1");
        }
        for (int i = 0; i < 4; i++) coming.add("does " + i + " 7");
        coming.add("meet");
    }

    /** Where there are too many edits by far, a call is refused, and nothing is otherwise. */
    private static void tooManyWorks() throws Exception {
        Side side = new Side(littleRoom(4000, 7));
        int refused = 0;
        for (String told : "feed 43;feed 97;feed 98;edit 0;insert 0 0 1 1;days 60;days 60;meet;undo 0;cut 0 0 1".split(";")) side.call(told);
        for (int k = 0; k < 300; k++) {
            String ahead = side.all();
            int full = side.call("status 16");
            int c = k % 4;
            String told = k % 3 == 0 ? "insert " + c + " 0 " + k % 26 + " 3" : k % 7 == 1 ? "hear " + c : k % 3 == 1 ? "mark " + c + " 0 1 1 1" : "serve " + c;
            if (side.call(told) != FULL) continue;
            refused++;
            Check.due("counted", side.call("status 16"), full + 1);
            Check.that("nothing is otherwise: " + told, side.all().equals(ahead));
        }
        Check.that("now and then there was no room: " + refused, refused >= 10);
    }
}
