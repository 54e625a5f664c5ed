import java.io.DataInputStream;
import java.io.IOException;
import java.io.InputStream;
import java.lang.reflect.Field;
import java.lang.reflect.Method;
import java.lang.reflect.Modifier;
import java.nio.charset.StandardCharsets;
import java.nio.file.Files;
import java.nio.file.Path;
import java.util.ArrayList;
import java.util.Arrays;
import java.util.List;
import java.util.Set;
import java.util.TreeSet;
import java.util.regex.Matcher;
import java.util.regex.Pattern;

/** That the class keeps to ../shared/LANGUAGE.md, as far as a look at its text and its code tells. */
public final class LanguageTest {
    private static final Path SOURCE = Path.of("src/main/java/AccessLattice.java");
    private static final Set<String> FACE = new TreeSet<>(Arrays.asList(
            "attribute4 within2 senior3 assign3 exclude3 step1 lend5 takeBack1 loan2 holds2 feed1 rule5 off1 of2 uses2 "
            .concat("left1 seniors0 may3 why2 who3 where2 could3 least4 until3 lose4 changes4 ways2 idle1 unlike3 book2 ")
            .concat("shadowed1 clash2 join3 roles2 level1 chain3 under1 decides2 since1 image0 back0 count1")
            .split(" ")));
    private static final Set<String> LIBRARY = Set.of("java/lang/Object.<init>", "java/lang/Integer.bitCount",
            "java/lang/Long.bitCount", "java/lang/Math.max", "java/lang/Math.min", "java/lang/System.arraycopy");
    private static final String FORBIDDEN_WORDS = "\\b(throw|throws|try|catch|finally|synchronized|assert|import|package"
            + "|record|enum|interface|volatile|native|strictfp|var|Object|String|NaN)\\b|->|::|\"|@";

    private static int wrong = 0;

    private static void check(boolean fine, String what) {
        if (!fine) {
            wrong++;
            System.out.println(what);
        }
    }

    public static void main(String[] args) throws IOException {
        String source = Files.readString(SOURCE, StandardCharsets.ISO_8859_1);
        for (int i = 0; i < source.length(); i++) {
            check(source.charAt(i) == '\n' || source.charAt(i) >= 32 && source.charAt(i) < 127, "sign at " + i);
        }
        String code = source.replaceAll("(?s)/\\*.*?\\*/", "").replaceAll("//[^\n]*", "");
        Matcher forbidden = Pattern.compile(FORBIDDEN_WORDS).matcher(code);
        while (forbidden.find()) {
            check(false, "rules 4, 6: " + forbidden.group());
        }
        checkLengths(source.split("\n"));
        checkFace();
        List<Class<?>> classes = new ArrayList<>(List.of(AccessLattice.class.getDeclaredClasses()));
        for (Class<?> inside : classes) {
            check(Modifier.isStatic(inside.getModifiers()) && Modifier.isPrivate(inside.getModifiers()), inside + ", rule 1");
        }
        classes.add(AccessLattice.class);
        check(classes.size() <= 12, "rule 11: " + classes.size() + " classes");
        for (Class<?> one : classes) {
            checkMembers(one);
            checkLibrary(one);
        }
        System.out.println(wrong == 0 ? "the language is kept" : wrong + " places are not in the language");
        if (wrong != 0) {
            System.exit(1);
        }
    }

    private static void checkLengths(String[] lines) {
        Pattern opening = Pattern.compile("( {4}| {8})(?! )(?!.*\\bclass\\b).*\\).*\\{");
        for (int i = 0; i < lines.length; i++) {
            Matcher matcher = opening.matcher(lines[i]);
            int end = i;
            while (matcher.matches() && end < lines.length && !lines[end].equals(matcher.group(1) + "}")) {
                end++;
            }
            check(end - i < 60, "rule 11: a method of " + (end - i + 1) + " lines at line " + (i + 1));
        }
    }

    private static void checkFace() {
        Set<String> face = new TreeSet<>();
        for (Method method : AccessLattice.class.getDeclaredMethods()) {
            boolean isPrivate = Modifier.isPrivate(method.getModifiers());
            if (!isPrivate) {
                face.add(method.getName() + method.getParameterCount());
            }
            check(isPrivate || method.getReturnType() == int.class, "rule 1: " + method);
        }
        check(face.equals(FACE), "the face is " + face);
        List<String> constants = new ArrayList<>();
        for (Field field : AccessLattice.class.getDeclaredFields()) {
            if (!Modifier.isPrivate(field.getModifiers())) {
                constants.add(field.getName());
            }
        }
        check(constants.equals(List.of("BAD", "NOT", "FULL", "RING", "STATE", "EXCLUDED")), "constants: " + constants);
        check(AccessLattice.class.getConstructors().length == 1, "constructors");
        check(Modifier.isFinal(AccessLattice.class.getModifiers()), "rule 1: final");
    }

    private static void checkMembers(Class<?> one) {
        int fields = 0;
        for (Field field : one.getDeclaredFields()) {
            boolean isStatic = Modifier.isStatic(field.getModifiers());
            check(!isStatic || Modifier.isFinal(field.getModifiers()), "rule 5: " + field);
            fields += isStatic ? 0 : 1;
        }
        check(fields <= 20, "rule 11: " + fields + " fields in " + one);
        for (Method method : one.getDeclaredMethods()) {
            check(method.getParameterCount() <= 7, "rule 11: " + method);
            check(!method.isSynthetic(), "made by the compiler: " + method);
            boolean isFace = one == AccessLattice.class && Modifier.isPublic(method.getModifiers());
            for (String name : FACE) {
                check(isFace || !name.substring(0, name.length() - 1).equals(method.getName()), "rule 1: " + method);
            }
        }
    }

    /** Every method that the class's code names, out of the constants of its file. */
    private static void checkLibrary(Class<?> one) throws IOException {
        try (InputStream file = one.getResourceAsStream("/" + one.getName() + ".class");
                DataInputStream in = new DataInputStream(file)) {
            in.readInt();
            in.readInt();
            int count = in.readUnsignedShort();
            Object[] constants = new Object[count];
            int[] tags = new int[count];
            for (int i = 1; i < count; i++) {
                tags[i] = in.readUnsignedByte();
                switch (tags[i]) {
                    case 1 -> constants[i] = in.readUTF();
                    case 3, 4 -> constants[i] = in.readInt();
                    case 5, 6 -> {
                        constants[i] = in.readLong();
                        i++;
                    }
                    case 7, 8, 16, 19, 20 -> constants[i] = in.readUnsignedShort();
                    case 9, 10, 11, 12, 17, 18 -> constants[i] = new int[] {in.readUnsignedShort(), in.readUnsignedShort()};
                    default -> {
                        in.readUnsignedByte();
                        in.readUnsignedShort();
                    }
                }
            }
            for (int i = 1; i < count; i++) {
                check(tags[i] != 11 && tags[i] != 17 && tags[i] != 18, "no such call: " + one);
                if (tags[i] == 10) {
                    int[] pair = (int[]) constants[i];
                    String owner = (String) constants[(Integer) constants[pair[0]]];
                    String name = owner + "." + constants[((int[]) constants[pair[1]])[0]];
                    check(owner.startsWith("AccessLattice") || owner.startsWith("[") || LIBRARY.contains(name),
                            "rule 4: " + name);
                }
            }
        }
    }
}
