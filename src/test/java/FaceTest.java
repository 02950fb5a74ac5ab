import java.io.IOException;
import java.lang.reflect.Constructor;
import java.lang.reflect.Field;
import java.lang.reflect.Method;
import java.lang.reflect.Modifier;
import java.nio.file.Files;
import java.nio.file.Path;
import java.util.Arrays;
import java.util.List;
import java.util.Set;
import java.util.TreeSet;
import java.util.regex.Matcher;
import java.util.regex.Pattern;

/** The public face of the document, and those rules of LANGUAGE.md that can be seen from outside or from the text. */
public final class FaceTest {
    private static final Set<String> FACE = Set.of("int feed(long,long,long)", "int sky()", "int kite(int,int)",
        "int wind(int)", "int lamp(int,int)", "boolean whistle(int,int)", "boolean lose(int,boolean)", "int run(int)",
        "int nearest(int,int,int)", "int fewest(int,int,int,int)", "int holds(int,int,int,int)", "int mayGo(int)",
        "int needed(int,int)", "long mean(int,int)", "int down()", "int note(int,int,int)", "boolean clear()",
        "int fits()", "int fit(int)", "int lots(int,int,int,int,int)", "boolean mark(int,boolean)", "int count(int)");

    public static void main(String[] args) throws IOException {
        theFace();
        theClassesInside();
        theText();
        Check.finish("FaceTest");
    }

    private static void theFace() {
        Class<?> face = KiteLamp.class;
        Check.that("public and final", Modifier.isPublic(face.getModifiers()) && Modifier.isFinal(face.getModifiers()));
        Check.same("NONE", KiteLamp.NONE, -1);
        Constructor<?>[] made = face.getDeclaredConstructors();
        Check.that("one public constructor without arguments", made.length == 1 && made[0].getParameterCount() == 0
            && Modifier.isPublic(made[0].getModifiers()));
        Set<String> found = new TreeSet<>();
        for (Method method : face.getDeclaredMethods()) {
            if (Modifier.isPublic(method.getModifiers())) {
                found.add(signature(method));
            } else {
                Check.that(method + " is private", Modifier.isPrivate(method.getModifiers()));
            }
        }
        Check.that("the methods of the face: " + found, found.equals(FACE));
        for (Field field : face.getDeclaredFields()) {
            boolean isNone = field.getName().equals("NONE") && Modifier.isPublic(field.getModifiers());
            Check.that(field + " is private", isNone || Modifier.isPrivate(field.getModifiers()));
        }
    }

    private static String signature(Method method) {
        List<String> types = Arrays.stream(method.getParameterTypes()).map(Class::getName).toList();
        return method.getReturnType().getName() + " " + method.getName() + "(" + String.join(",", types) + ")";
    }

    private static void theClassesInside() {
        Set<String> names = new TreeSet<>();
        for (String signature : FACE) {
            names.add(signature.substring(signature.indexOf(' ') + 1, signature.indexOf('(')));
        }
        Class<?>[] inside = KiteLamp.class.getDeclaredClasses();
        Check.that("at most twelve classes", inside.length + 1 <= 12);
        for (Class<?> one : inside) {
            Check.that(one + " is static and not public", Modifier.isStatic(one.getModifiers())
                && !Modifier.isPublic(one.getModifiers()) && !Modifier.isProtected(one.getModifiers()));
            int fields = 0;
            for (Field field : one.getDeclaredFields()) {
                boolean isStatic = Modifier.isStatic(field.getModifiers());
                fields += isStatic ? 0 : 1;
                Check.that(field + " is no static state", !isStatic || Modifier.isFinal(field.getModifiers()));
            }
            Check.that(one + " has some twenty fields at most", fields <= 20);
            for (Method method : one.getDeclaredMethods()) {
                Check.that(method + " bears no name of the face", !names.contains(method.getName()));
                Check.that(method + " takes seven at most", method.getParameterCount() <= 7);
            }
        }
    }

    private static void theText() throws IOException {
        String text = Files.readString(Path.of("src/main/java/KiteLamp.java"));
        String[] banned = {"->", "::", "catch", "finally", "synchronized", "assert", "instanceof", "@", "Random",
            "System.out", "System.in", "System.current", "System.nano", "Thread", "Exact(", "getClass", "static {",
            "\" +", "+ \"", "\t"};
        for (String part : banned) {
            Check.that("the text is without " + part, !text.contains(part));
        }
        Set<String> imports = new TreeSet<>();
        Matcher matcher = Pattern.compile("(?m)^import (.*);$").matcher(text);
        while (matcher.find()) {
            imports.add(matcher.group(1));
        }
        Check.that("imports " + imports, imports.equals(Set.of("java.util.Arrays", "java.util.NoSuchElementException")));
        Check.that("no package", !text.contains("\npackage ") && !text.startsWith("package "));
        Check.that("signs of a text", text.chars().allMatch(sign -> sign == '\n' || sign >= 32 && sign <= 126));
        methodsAreShort(text);
    }

    private static void methodsAreShort(String text) {
        String[] lines = text.split("\n");
        int begin = -1;
        String end = "";
        for (int i = 0; i < lines.length; i++) {
            Matcher matcher = Pattern.compile("^( +)[^ =]+.*\\) (throws \\w+ )?\\{$").matcher(lines[i]);
            boolean opens = matcher.find() && !lines[i].matches(" +(if|for|while|switch|\\}) ?.*");
            if (begin < 0 && opens) {
                begin = i;
                end = matcher.group(1) + "}";
            } else if (begin >= 0 && lines[i].equals(end)) {
                Check.that("short: " + lines[begin].trim(), i - begin + 1 <= 60);
                begin = -1;
            }
        }
    }
}
