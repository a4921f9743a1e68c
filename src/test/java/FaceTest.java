import java.lang.reflect.Constructor;
import java.lang.reflect.Field;
import java.lang.reflect.Method;
import java.lang.reflect.Modifier;
import java.nio.charset.StandardCharsets;
import java.nio.file.Files;
import java.nio.file.Path;
import java.util.HashSet;
import java.util.Random;
import java.util.Set;
import java.util.TreeMap;
import java.util.Map;
import java.util.regex.Matcher;
import java.util.regex.Pattern;

/** The public face, wild arguments on it, and what LANGUAGE.md rules out and can be seen in the text. */
public final class FaceTest {
    private static final String FACE = "feed5 end1 street0 fault1 window2 man2 net2 corner3 jumper2 quarrel2 feud2 will2 "
            + "gives2 held1 heaviest1 highest2 jump1 undo0 led2 lasts2 stand3 change2 best1 post2 rows2 safe0 placed2 ways0 "
            + "quarrels0 where2 peace1 mends1 harm1 key0 helps0 alarm2 route3 last1 middle0 game5 rests2 tests2 sought2 "
            + "firstFall2 seen1 sure2 odd1 corners1 pays2 fair3 without2 mend3 wet2 anger3 truce3 night3 years3 count1 "
            + "image1 back1 row3 write3 paste5";
    private static final int[] EDGES = {0, 1, -1, -2, 2, 3, 4, 5, 8, 9, 10, 12, 13, 19, 20, 21, 59, 60, 61, 99, 100,
        1400, 1000000, 2000000000, 2000000001, Integer.MAX_VALUE, Integer.MIN_VALUE, Integer.MAX_VALUE - 1};

    public static void main(String[] args) throws Exception {
        face();
        wild();
        source();
        Due.close("FaceTest");
    }

    private static void face() {
        Map<String, Integer> due = new TreeMap<>();
        for (String part : FACE.split(" ")) {
            int cut = part.length() - 1;
            due.put(part.substring(0, cut), part.charAt(cut) - '0');
        }
        Due.is("methods of the face", due.size(), 63);
        for (Method m : OppositeNets.class.getDeclaredMethods()) {
            boolean open = !Modifier.isPrivate(m.getModifiers());
            Integer n = due.get(m.getName());
            Due.is("open as told: " + m.getName(), open ? 1 : 0, n != null ? 1 : 0);
            if (n != null) {
                Due.is("parameters of " + m.getName(), m.getParameterCount(), n);
                Due.is("public " + m.getName(), m.getModifiers(), Modifier.PUBLIC);
                Due.is("int " + m.getName(), m.getReturnType() == int.class ? 1 : 0, 1);
                due.remove(m.getName());
            }
        }
        Due.is("methods that are wanting: " + due.keySet(), due.size(), 0);
        for (Field f : OppositeNets.class.getDeclaredFields()) {
            Due.is("field " + f.getName(), Modifier.isPrivate(f.getModifiers()) ? 0 : 1, f.getName().equals("NONE") ? 1 : 0);
        }
        Constructor<?>[] made = OppositeNets.class.getDeclaredConstructors();
        Due.is("constructors", made.length, 1);
        Due.is("public constructor", made[0].getModifiers(), Modifier.PUBLIC);
        Due.is("final class", OppositeNets.class.getModifiers(), Modifier.PUBLIC | Modifier.FINAL);
        for (Class<?> inside : OppositeNets.class.getDeclaredClasses()) {
            Due.is("static " + inside, Modifier.isStatic(inside.getModifiers()) ? 1 : 0, 1);
            int fields = 0;
            for (Field f : inside.getDeclaredFields()) {
                fields += Modifier.isStatic(f.getModifiers()) ? 0 : 1;
            }
            Due.is("twenty fields at most: " + inside, fields <= 20 ? 1 : 0, 1);
        }
        Due.is("twelve classes at most", OppositeNets.class.getDeclaredClasses().length + 1 <= 12 ? 1 : 0, 1);
    }

    /** Whatever is asked in whatever state, the machine does not throw. */
    private static void wild() throws Exception {
        String[] streets = {"", "street houses 2 storeys 1;",
            "street houses 4 storeys 6;window 3 6;net at 0 knots 9 9 9 9 wears 9 wet;man 0 strength 9;stands 0 at 0 3;",
            "street houses 3 storeys 2;" + "window 2 2;".repeat(9) + "man 1 strength 60;".repeat(9)
                    + "jumper weight 9 at 8;".repeat(9) + "net at 8 knots 9 9 9 9 wears 0;net at 0 knots 9 9 9 9 wears 1;"
                    + "stands 8 at 1 3;stands 7 at 0 0;stands 6 at 0 1;stands 5 at 0 2;stands 4 at 0 3;road 0 2 9;"};
        Method[] all = OppositeNets.class.getDeclaredMethods();
        java.util.Arrays.sort(all, (a, b) -> a.getName().compareTo(b.getName()));
        Random r = new Random(7);
        for (int run = 0; run < 400; run++) {
            OppositeNets x = new OppositeNets();
            Due.read(x, streets[run % streets.length]);
            for (int i = 0; i < 480; i++) {
                Method m = all[r.nextInt(all.length)];
                if (Modifier.isPublic(m.getModifiers()) && !(m.getName().equals("street") && r.nextInt(5) > 0)) {
                    askWildly(x, m, r);
                }
            }
        }
    }

    private static void askWildly(OppositeNets x, Method m, Random r) throws Exception {
        Object[] given = new Object[m.getParameterCount()];
        for (int i = 0; i < given.length; i++) {
            int v = r.nextInt(3) > 0 ? r.nextInt(5) : EDGES[r.nextInt(EDGES.length)];
            given[i] = m.getParameterTypes()[i] == long.class ? (Object) (long) v : (Object) v;
        }
        int threw = 0;
        try {
            m.invoke(x, given);
        } catch (java.lang.reflect.InvocationTargetException e) {
            threw = 1;
            System.out.println(m.getName() + java.util.Arrays.toString(given) + " threw " + e.getCause());
        }
        Due.is(m.getName() + " threw", threw, 0);
    }

    private static void source() throws Exception {
        String text = Files.readString(Path.of("src/main/java/OppositeNets.java"), StandardCharsets.ISO_8859_1);
        String code = text.replaceAll("(?s)/\\*.*?\\*/", "").replaceAll("//[^\n]*", "");
        String[] words = {"throw", "try", "catch", "synchronized", "assert", "throws", "package", "protected", "transient",
            "native", "volatile", "var", "hashCode", "System.out", "Exact", "->", "::", "instanceof Object",
            "MAX_VALUE", "MIN_VALUE"};
        for (String word : words) {
            boolean sign = !Character.isLetter(word.charAt(0));
            Matcher m = Pattern.compile(sign ? Pattern.quote(word) : "\\b" + Pattern.quote(word) + "\\b").matcher(code);
            Due.is("the word " + word, m.find() ? 1 : 0, 0);
        }
        Matcher imports = Pattern.compile("import ([^;]+);").matcher(code);
        Set<String> brought = new HashSet<>();
        while (imports.find()) {
            brought.add(imports.group(1));
        }
        brought.remove("java.util.Arrays");
        Due.is("imports " + brought, brought.size(), 0);
        for (int i = 0; i < text.length(); i++) {
            if (text.charAt(i) > 126) {
                Due.is("sign at " + i, text.charAt(i), 0);
            }
        }
        methodsStayShort(code);
        namesAreApart(code);
    }

    private static void methodsStayShort(String code) {
        String[] lines = code.split("\n");
        int start = -1;
        String close = "";
        for (int i = 0; i < lines.length; i++) {
            Matcher m = Pattern.compile("^( {4}| {8})(?! )[^=;]*\\([^;]*\\) \\{$").matcher(lines[i]);
            if (m.find() && start < 0) {
                start = i;
                close = m.group(1) + "}";
            } else if (start >= 0 && lines[i].equals(close)) {
                Due.is("short: " + lines[start].trim(), i - start + 1 <= 60 ? 1 : 0, 1);
                start = -1;
            }
        }
    }

    private static void namesAreApart(String code) {
        Set<String> face = new HashSet<>();
        for (String part : FACE.split(" ")) {
            face.add(part.substring(0, part.length() - 1));
        }
        Matcher m = Pattern.compile("\n *(private |static |final |abstract )*[a-zA-Z\\[\\]]+ ([a-zA-Z]+)\\([^)]*\\) \\{").matcher(code);
        while (m.find()) {
            String head = m.group();
            boolean isPublic = head.contains("public ");
            Due.is("a name of the face: " + head.trim(), !isPublic && face.contains(m.group(2)) ? 1 : 0, 0);
        }
    }
}
