import java.lang.reflect.Constructor;
import java.lang.reflect.Field;
import java.lang.reflect.Method;
import java.lang.reflect.Modifier;
import java.nio.charset.StandardCharsets;
import java.nio.file.Files;
import java.nio.file.Path;
import java.util.ArrayList;
import java.util.HashMap;
import java.util.HashSet;
import java.util.List;
import java.util.Map;
import java.util.Set;
import java.util.TreeSet;
import java.util.regex.Matcher;
import java.util.regex.Pattern;

/** What can be seen of ../shared/LANGUAGE.md from the class and from its source (run from the project's root). */
public final class LanguageRuns {
    private static final String FACE = "about/1 aged/1 ask/1 back/0 bestFlip/1 book/2 candidate/2 clean/1 collect/1 "
        + "conflicts/1 cool/0 crowd/2 deepest/1 depth/1 distance/2 empty/0 end/1 even/1 evenAll/0 family/1 fault/1 "
        + "feed/5 fitting/0 fittingPlainly/0 flipped/3 gather/1 gathered/1 hits/1 holds/2 hottest/2 ideal/1 image/0 "
        + "index/2 is/1 leave/1 length/1 mask/3 masked/2 memory/1 misses/2 moved/2 pairs/1 piece/1 pieces/0 pin/2 "
        + "rank/2 ratio/0 reach/2 recent/2 room/1 run/1 scatter/1 scattered/3 shape/2 shares/1 slot/3 spread/4 "
        + "stale/0 step/2 suited/1 sweep/3 tell/1 text/0 together/2 trade/2 twin/2 twins/1 undo/0 value/1 victim/1 "
        + "where/1 wide/1 working/2 worst/2 write/2 writes/1";

    private static final Pattern TELLS = Pattern.compile("\\bthis\\b|\\b(?!for\\b|if\\b)\\w+ ?\\([^)]");

    private static int wrong = 0;

    private static void check(boolean is, String what) {
        if (!is) {
            wrong++;
            System.out.println(what);
        }
    }

    private static void face() {
        Set<String> face = new TreeSet<>();
        Set<String> names = new HashSet<>();
        for (Method m : SkewedWays.class.getDeclaredMethods()) {
            if (Modifier.isPublic(m.getModifiers())) {
                face.add(m.getName() + "/" + m.getParameterCount());
                names.add(m.getName());
            } else {
                check(Modifier.isPrivate(m.getModifiers()), "rule 1: " + m);
            }
        }
        check(String.join(" ", face).equals(FACE), "rule 1: the face is " + String.join(" ", face));
        for (Field f : SkewedWays.class.getDeclaredFields()) {
            check(Modifier.isPrivate(f.getModifiers()) || f.getName().equals("NONE"), "rule 1: " + f);
        }
        List<Class<?>> all = new ArrayList<>(List.of(SkewedWays.class.getDeclaredClasses()));
        check(all.size() <= 11, "rule 11: classes");
        for (Class<?> c : all) {
            check(Modifier.isPrivate(c.getModifiers()) && Modifier.isStatic(c.getModifiers()), "rule 1: " + c);
            for (Constructor<?> k : c.getDeclaredConstructors()) {
                check(Modifier.isPrivate(k.getModifiers()), "rule 1: " + k);
            }
            for (Method m : c.getDeclaredMethods()) {
                check(!names.contains(m.getName()), "rule 1: a private method bears a public one's name: " + m);
            }
        }
        all.add(SkewedWays.class);
        for (Class<?> c : all) {
            int fields = 0;
            for (Field f : c.getDeclaredFields()) {
                boolean constant = Modifier.isStatic(f.getModifiers());
                check(!constant || Modifier.isFinal(f.getModifiers()), "rule 5: " + f);
                check(!constant || f.getType() == int.class, "rule 5: " + f);
                fields += constant ? 0 : 1;
            }
            check(fields <= 20, "rule 11: fields of " + c);
            for (Method m : c.getDeclaredMethods()) {
                check(m.getParameterCount() <= 7, "rule 11: " + m);
            }
        }
    }

    private static String bare(String source) {
        String text = source.replaceAll("(?s)/\\*.*?\\*/", "").replaceAll("//[^\n]*", "");
        return text.replaceAll("'\\\\?.'", "'s'");
    }

    private static void words(String source) {
        String text = bare(source);
        String[] never = {"package", "catch", "try", "throw", "throws", "finally", "synchronized", "assert", "var", "equals",
            "hashCode", "toString", "instanceof", "record", "sealed", "volatile", "transient", "native", "protected", "float",
            "Thread", "System\\.nanoTime", "System\\.currentTimeMillis", "Random", "Object", "Double", "lambda"};
        for (String word : never) {
            check(!Pattern.compile("\\b" + word + "\\b").matcher(text).find(), "a word that isn't needed: " + word);
        }
        check(!text.contains("->") && !text.contains("::"), "rule 2: a lambda or a method reference");
        check(!text.contains("Exact"), "rule 4: Exact");
        check(!text.contains("\""), "no text is needed");
        check(!Pattern.compile("static\\s*\\{").matcher(text).find(), "rule 5: a static initialiser");
        Matcher imports = Pattern.compile("import ([^;]*);").matcher(text);
        while (imports.find()) {
            check(imports.group(1).equals("java.util.Arrays"), "rule 4: " + imports.group(1));
        }
        for (int i = 0; i < source.length(); i++) {
            char c = source.charAt(i);
            check(c == '\n' || c >= 32 && c < 127, "a sign that is none of ASCII at " + i);
        }
    }

    /** Methods by their lines: how long they are, what they call, how deep the calls go. */
    private static void methods(String source) {
        String[] lines = bare(source).split("\n");
        Pattern head = Pattern.compile("^(    |        )(public|private) (?:static )?(?:\\w+(?:\\[\\])? )?(\\w+)\\(.*\\{$");
        Map<String, String> bodies = new HashMap<>();
        for (int i = 0; i < lines.length; i++) {
            Matcher m = head.matcher(lines[i]);
            if (m.matches()) {
                int end = i;
                StringBuilder body = new StringBuilder();
                while (!lines[end].equals(m.group(1) + "}")) {
                    end++;
                    body.append(lines[end]).append('\n');
                }
                check(end - i < 60, "rule 11: long: " + lines[i]);
                String name = m.group(3);
                boolean constructor = Character.isUpperCase(name.charAt(0));
                check(constructor || !bodies.containsKey(name), "a name is used by two methods: " + name);
                check(!constructor || !TELLS.matcher(body).find(), "rule 12: a constructor hands something out: " + name);
                check(!body.toString().contains("while (true)") && !body.toString().contains("for (;;"), "rule 9: " + name);
                bodies.merge(name, body.toString(), String::concat);
            }
        }
        check(bodies.size() > 150, "methods were not found");
        Map<String, Integer> deep = new HashMap<>();
        for (String name : bodies.keySet()) {
            int d = depthOf(name, bodies, deep, 0);
            check(d <= 8, "rule 11: calls go " + d + " deep from " + name);
        }
    }

    private static int depthOf(String name, Map<String, String> bodies, Map<String, Integer> deep, int open) {
        if (deep.containsKey(name)) {
            return deep.get(name);
        }
        if (open > 100) {
            check(false, "rule 8: a recursion through " + name);
            return 0;
        }
        int most = 0;
        Matcher calls = Pattern.compile("\\b(\\w+)\\(").matcher(bodies.get(name));
        while (calls.find()) {
            String called = calls.group(1);
            if (bodies.containsKey(called)) {
                most = Math.max(most, depthOf(called, bodies, deep, open + 1));
            } else if (Set.of("fill", "arraycopy", "min", "max", "bitCount").contains(called)) {
                most = Math.max(most, 1);
            } else {
                check(Set.of("if", "for", "while", "switch").contains(called), "rule 4: a call of " + called);
            }
        }
        deep.put(name, most + 1);
        return most + 1;
    }

    public static void main(String[] args) throws Exception {
        byte[] bytes = Files.readAllBytes(Path.of("src/main/java/SkewedWays.java"));
        String source = new String(bytes, StandardCharsets.ISO_8859_1);
        face();
        words(source);
        methods(source);
        System.out.println(wrong == 0 ? "the language is kept to" : wrong + " things are outside the language");
        if (wrong != 0) {
            System.exit(1);
        }
    }
}
