import java.lang.reflect.Method;
import java.net.URL;
import java.net.URLClassLoader;
import java.nio.charset.StandardCharsets;
import java.nio.file.Files;
import java.nio.file.Path;
import java.util.ArrayDeque;
import java.util.ArrayList;
import java.util.HashMap;
import java.util.List;
import java.util.Map;
import java.util.Random;
import javax.tools.ToolProvider;

/**
 * The class made anew with room for few nodes, so that it throws away what nobody holds again and
 * again, gives up nodes of what is held and weaves them anew, and now and then has no room at all. It
 * answers as the class itself does; where it has no room it refuses the call (FULL), and nothing is
 * otherwise than ahead of it.
 */
public final class CrampedTest {
    private static final int FULL = -6;
    private static final int CALLS = 400;

    private final Random random;
    private final int mood;
    private final ArrayDeque<String> coming = new ArrayDeque<>();
    private final List<String> answered = new ArrayList<>();
    private Side cramped;
    private Side roomy;

    private static int refused;
    private static int madeRoom;
    private static int compared;
    private static boolean isTold;

    private CrampedTest(long seed) {
        random = new Random(seed);
        mood = (int) (seed % 3);
    }

    public static void main(String[] args) throws Exception {
        for (int some : new int[] {1200, 1500, 2500}) {
            Class<?> little = littleRoom(some);
            for (int seed = 0; seed < 25; seed++) new CrampedTest(seed).go(little, some + " nodes, seed " + seed);
        }
        System.out.println("refused " + refused + ", room made " + madeRoom + ", compared " + compared);
        Check.that("now and then there was no room: " + refused, refused >= 10);
        Check.that("room was made again and again: " + madeRoom, madeRoom >= 1000);
        Check.that("mostly all could be told: " + compared, compared >= 1000);
        allIsRefused();
        Check.end();
    }

    /** The class with room for so many nodes. */
    private static Class<?> littleRoom(int some) throws Exception {
        String source = new String(Files.readAllBytes(Path.of("src/main/java/EditsMeet.java")), StandardCharsets.US_ASCII);
        String cramped = source;
        String[] told = {"NODES_MOST = (1 << 21) - 2;", "NODES_MOST = 1025 + " + some + ";", "ROOM_AHEAD = 1 << 13;",
            "ROOM_AHEAD = 400;", "ROOM_WANTED = 1 << 18;", "ROOM_WANTED = 900;", "SMALL_LEAVES = 254;", "SMALL_LEAVES = 4;",
            "SMALL_NODES = 1000;", "SMALL_NODES = 10;", "WORK_BITS = 14;", "WORK_BITS = 10;"};
        for (int i = 0; i < told.length; i += 2) {
            Check.that("the source tells its room: " + told[i], source.indexOf(told[i]) > 0 && source.indexOf(told[i]) == source.lastIndexOf(told[i]));
            cramped = cramped.replace(told[i], told[i + 1]);
        }
        Path place = Files.createTempDirectory("cramped");
        Path file = place.resolve("EditsMeet.java");
        Files.write(file, cramped.getBytes(StandardCharsets.US_ASCII));
        int failed = ToolProvider.getSystemJavaCompiler().run(null, null, null, "-proc:none", "-d", place.toString(), file.toString());
        Check.due("compiled", failed, 0);
        Class<?> made = new URLClassLoader(new URL[] {place.toUri().toURL()}, null).loadClass("EditsMeet");
        made.getConstructor().newInstance();
        return made;
    }

    /** An object of one of both classes. */
    private static final class Side {
        final Object object;
        final Map<String, Method> methods = new HashMap<>();

        Side(Class<?> type) throws Exception {
            object = type.getConstructor().newInstance();
            for (Method method : type.getMethods()) methods.put(method.getName(), method);
        }

        int call(String told) throws Exception {
            String[] words = told.split(" ");
            Object[] numbers = new Object[words.length - 1];
            for (int i = 1; i < words.length; i++) numbers[i - 1] = Integer.parseInt(words[i]);
            return ((Number) methods.get(words[0]).invoke(object, numbers)).intValue();
        }

        /** A question; it is refused, too, where there is no room for what it is about. */
        int ask(String told) throws Exception {
            int answer = call(told);
            if (answer == FULL) isTold = false;
            return answer;
        }

        /** All that can be asked, but for refusals. */
        String all() throws Exception {
            StringBuilder s = new StringBuilder();
            for (int c = 0; c < 5; c++) {
                int n = ask("length " + c);
                s.append("\ntext ").append(n).append(' ').append(ask("apart " + c + " 4"));
                for (int p = 0; p < n; p += 1 + n / 200) s.append(' ').append(ask("text " + c + " " + p + " 0") + 100 * ask("text " + c + " " + p + " 1"));
                for (int bit = 0; bit < 5; bit++) s.append(' ').append(ask("marked " + c + " " + bit));
                for (int w = 0; w < 7 && c < 4; w++) s.append(' ').append(ask("clientOf " + c + " " + w));
                for (int w = 0; w < 2 && c < 4; w++) s.append(' ').append(ask("cursor " + c + " " + w));
            }
            for (int e = 0; e < 12; e++) {
                int n = ask("of " + e + " 0");
                if (n == -4) continue;
                s.append("\nedit ").append(e);
                for (int w = 0; w < 6; w++) s.append(' ').append(ask("of " + e + " " + w));
                for (int i = 0; i < n; i += 1 + n / 40) for (int w = 0; w < 4; w++) s.append(' ').append(ask("part " + e + " " + i + " " + w));
                for (int i = 0; i < 120; i += 3) s.append(' ').append(ask("spelled " + e + " " + i));
                for (int f = 0; f < 12; f++) s.append(' ').append(ask("differ " + e + " " + f));
            }
            for (int w = 0; w < 8; w++) s.append(' ').append(ask("status " + w));
            return s.toString();
        }

        int tidied() throws Exception {
            java.lang.reflect.Field trees = object.getClass().getDeclaredField("trees");
            trees.setAccessible(true);
            java.lang.reflect.Field tidied = trees.get(object).getClass().getDeclaredField("tidied");
            tidied.setAccessible(true);
            return tidied.getInt(trees.get(object));
        }
    }

    private void go(Class<?> little, String when) throws Exception {
        cramped = new Side(little);
        roomy = new Side(EditsMeet.class);
        boolean isAlike = true;
        for (int k = 0; k < CALLS && isAlike; k++) {
            String told = nextCall();
            isTold = true;
            String ahead = cramped.all();
            int got = cramped.call(told);
            int due = roomy.call(told);
            if (got == due) {
                answered.add(told);
                isAlike = k % 25 != 0 || areAlike(cramped.all(), roomy.all());
                continue;
            }
            refused++;
            isAlike = got == FULL;
            if (told.equals("meet")) break;
            Check.that(when + ": refused, and nothing is otherwise: " + told, areAlike(cramped.all(), ahead));
            roomy = new Side(EditsMeet.class);
            for (String again : answered) roomy.call(again);
        }
        Check.that(when + " after " + answered.size() + " calls", isAlike);
        madeRoom += cramped.tidied();
    }

    /** Where all could be told. */
    private static boolean areAlike(String one, String two) {
        if (isTold) compared++;
        return !isTold || one.equals(two);
    }

    private String nextCall() throws Exception {
        int c = random.nextInt(4);
        int n = cramped.call("length " + c);
        int p = random.nextInt(n + 1);
        if (coming.isEmpty() && random.nextInt(20) == 0) comingRound(cramped.call("length 0"));
        if (!coming.isEmpty()) return coming.remove();
        switch (random.nextInt(mood == 2 ? 22 : 16)) {
            case 0: case 1: return "insert " + c + " " + p + " " + random.nextInt(26) + " " + random.nextInt(16);
            case 2: return "cut " + c + " " + p + " " + (1 + random.nextInt(mood == 0 ? 30 : 3));
            case 3: case 4: return "mark " + c + " " + p + " " + (1 + random.nextInt(Math.max(1, n - p))) + " " + random.nextInt(4) + " " + random.nextInt(2);
            case 5: return "undo " + c;
            case 6: return "redo " + c;
            case 7: return "serve " + c;
            case 8: return "hear " + c;
            case 9: return "meet";
            case 10: return "takes " + random.nextInt(12) + " " + c + " " + random.nextInt(4);
            case 11: return "behind " + random.nextInt(12) + " " + random.nextInt(12) + " " + random.nextInt(12);
            case 12: return "over " + random.nextInt(12) + " " + random.nextInt(12) + " " + random.nextInt(12) + " " + random.nextInt(2);
            case 13: return "turned " + random.nextInt(12) + " " + random.nextInt(12) + " " + c;
            case 14: return random.nextBoolean() ? "image" : "back";
            case 15: return "point " + c + " " + p + " " + random.nextInt(n + 1);
            default: return "does " + c + " " + random.nextInt(8);
        }
    }

    /** The text becomes four times as long. */
    private void comingRound(int n) {
        if (n > 0 && n <= 60 && random.nextInt(3) == 0) {
            for (String told : ("meet;image;cut 0 0 " + n + ";takes 0 0 0;takes 1 0 2;behind 7 0 1;back").split(";")) coming.add(told);
        } else {
            for (int i = 0; i < 4; i++) coming.add("takes " + (3 + i) + " " + i + " 2");
            coming.add("mark 0 0 1 0 1");
            for (int i = 0; i < 4; i++) coming.add("does 0 " + (3 + i));
            coming.add("takes 7 0 1");
        }
        for (int i = 0; i < 4; i++) coming.add("does " + i + " 7");
        coming.add("meet");
    }

    /** Where there is no room at all, what would need some is refused; what needs none is answered. */
    private static void allIsRefused() throws Exception {
        Side side = new Side(littleRoom(800));
        for (String told : "feed 43;feed 97;feed 98;edit 0;insert 0 0 1 1;days 60;meet;undo 0;redo 0;serve 1;cut 0 0 1".split(";")) {
            if (side.call(told) == FULL) refused++;
        }
        for (int c = 0; c < 5; c++) Check.that("a length", side.call("length " + c) >= 0);
        for (int k = 0; k < 60; k++) {
            String ahead = side.all();
            int full = side.call("status 16");
            String told = k % 3 == 0 ? "insert 0 0 " + k % 26 + " 3" : k % 3 == 1 ? "mark 1 0 1 1 1" : "undo 2";
            if (side.call(told) != FULL) continue;
            Check.due("counted", side.call("status 16"), full + 1);
            Check.that("nothing is otherwise: " + told, side.all().equals(ahead));
        }
    }
}
