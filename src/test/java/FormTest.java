import java.io.IOException;
import java.lang.reflect.Constructor;
import java.lang.reflect.Field;
import java.lang.reflect.Method;
import java.lang.reflect.Modifier;
import java.nio.file.Files;
import java.nio.file.Path;
import java.util.ArrayList;
import java.util.Arrays;
import java.util.List;
import java.util.Set;
import java.util.TreeSet;
import java.util.regex.Matcher;
import java.util.regex.Pattern;

/** The face, and the rules of LANGUAGE.md that can be seen from the source and the classes. */
public final class FormTest {
    private static final String FACE = "alter III I,ask I I,back I I,bear II I,best I I,by II I,count I I,dies I I,downs II I,drift III I,"
            + "end I I,fault  I,feed I I,forget I I,gains II I,heir II I,herd I I,herds I I,judge I I,judges  I,keep I I,keeps II I,"
            + "lay III I,lend I I,loses II I,luck IIII J,mean III J,of II I,over II J,read IIII I,rule I I,see II I,share II I,"
            + "sheet III I,sum I J,text  I,told II J,torn  I,unlike II I,wants II I,will IIII I,wills II I";

    public static void main(String[] args) throws IOException {
        face();
        classes();
        source(Files.readString(Path.of("src/main/java/CamelParts.java")));
        Due.finish();
    }

    private static void holds(String rule, boolean holds) {
        Due.due(rule, holds ? 1 : 0, 1);
    }

    private static void face() {
        Set<String> publicOnes = new TreeSet<>();
        for (Method m : CamelParts.class.getDeclaredMethods()) {
            if (Modifier.isPublic(m.getModifiers())) {
                publicOnes.add(signature(m));
            } else {
                holds("rule 1: private: " + m.getName(), Modifier.isPrivate(m.getModifiers()) || m.isSynthetic());
            }
        }
        holds("the face: " + publicOnes, publicOnes.equals(new TreeSet<>(Arrays.asList(FACE.split(",")))));
        Set<String> constants = new TreeSet<>();
        for (Field f : CamelParts.class.getDeclaredFields()) {
            if (!Modifier.isPrivate(f.getModifiers())) {
                constants.add(f.getName());
                holds("constant: " + f.getName(), Modifier.toString(f.getModifiers()).equals("public static final"));
            }
        }
        holds("constants: " + constants, constants.equals(Set.of("BAD", "STATE", "FULL", "NONE")));
        Constructor<?>[] made = CamelParts.class.getDeclaredConstructors();
        holds("constructor", made.length == 1 && made[0].getParameterCount() == 0 && Modifier.isPublic(made[0].getModifiers()));
        holds("final", Modifier.isFinal(CamelParts.class.getModifiers()));
    }

    private static String signature(Method m) {
        StringBuilder s = new StringBuilder(m.getName()).append(' ');
        for (Class<?> p : m.getParameterTypes()) {
            s.append(p.descriptorString());
        }
        return s.append(' ').append(m.getReturnType().descriptorString()).toString();
    }

    private static void classes() {
        Set<String> names = new TreeSet<>();
        for (String one : FACE.split(",")) {
            names.add(one.substring(0, one.indexOf(' ')));
        }
        List<Class<?>> all = new ArrayList<>(List.of(CamelParts.class.getDeclaredClasses()));
        holds("rule 11: classes", all.size() < 12);
        for (Class<?> c : all) {
            holds("rule 1: static: " + c, Modifier.isStatic(c.getModifiers()) && !Modifier.isPublic(c.getModifiers()));
            for (Method m : c.getDeclaredMethods()) {
                holds("rule 1: name of its own: " + m, !names.contains(m.getName()));
            }
        }
        all.add(CamelParts.class);
        for (Class<?> c : all) {
            int fields = 0;
            for (Field f : c.getDeclaredFields()) {
                boolean isStatic = Modifier.isStatic(f.getModifiers());
                fields += isStatic ? 0 : 1;
                holds("rule 5: final: " + f, !isStatic || Modifier.isFinal(f.getModifiers()));
            }
            holds("rule 11: fields of " + c, fields <= 20);
            for (Method m : c.getDeclaredMethods()) {
                holds("rule 1: no private one bears a public name: " + m, Modifier.isPublic(m.getModifiers()) || !names.contains(m.getName()));
                holds("rule 11: parameters of " + m, m.getParameterCount() <= 7);
            }
        }
    }

    private static void source(String whole) {
        String code = whole.replaceAll("(?s)/\\*.*?\\*/", "").replaceAll("//[^\n]*", "").replaceAll("\"[^\"\n]*\"", "\"\"");
        String[] refused = {"\\bthrow\\b", "\\btry\\b", "\\bcatch\\b", "\\bsynchronized\\b", "\\bassert\\b", "\\bimport\\b", "\\bpackage\\b",
            "->", "::", "\\bprotected\\b", "Exact\\b", "\\bjava\\.", "\\bObject\\b", "\\bequals\\b", "\\bhashCode\\b", "\\btoString\\b", "@"};
        for (String word : refused) {
            holds("rules 4, 6: " + word, !Pattern.compile(word).matcher(code).find());
        }
        // The two guarded divisions, and no other.
        Matcher division = Pattern.compile("[/%](?!=?\\s*100\\b)").matcher(code);
        int divisions = 0;
        while (division.find()) {
            divisions++;
        }
        Due.due("rule 7: divisions by what is not a constant", divisions, 2);
        methodLengths(code);
    }

    private static void methodLengths(String code) {
        int depthOfMethod = 0;
        int start = 0;
        int depth = 0;
        String[] lines = code.split("\n");
        for (int n = 0; n < lines.length; n++) {
            boolean isHead = lines[n].matches(" {4,8}[a-zA-Z].*\\) \\{") && !lines[n].matches(".*\\b(if|for|while|switch)\\b.*");
            if (isHead && depthOfMethod == 0) {
                start = n;
                depthOfMethod = depth + 1;
            }
            depth += lines[n].replaceAll("[^{]", "").length() - lines[n].replaceAll("[^}]", "").length();
            if (depthOfMethod > 0 && depth < depthOfMethod) {
                holds("rule 11: length of " + lines[start], n - start < 60);
                depthOfMethod = 0;
            }
        }
    }
}
