import java.lang.reflect.Constructor;
import java.lang.reflect.Field;
import java.lang.reflect.Method;
import java.lang.reflect.Modifier;
import java.nio.file.Files;
import java.nio.file.Path;
import java.util.Set;
import java.util.TreeSet;

/** The public face: just what the document's page of it says, and no other member to be seen. */
public final class FaceTest {
    public static void main(String[] args) throws Exception {
        String page = Files.readString(Path.of("../shared/DOC.md"));
        int start = page.indexOf("public final class HorologeBench {");
        String face = page.substring(start, page.indexOf("```", start));
        Set<String> due = new TreeSet<>();
        for (String line : face.split("\n")) {
            if (line.contains("(")) {
                due.add(line.trim().replaceAll("( throws .*)?;$", "").replaceAll(" (\\w+)([,)])", "$2"));
            }
        }
        Set<String> got = new TreeSet<>();
        Class<?> bench = HorologeBench.class;
        Set<String> privateNames = new TreeSet<>();
        Set<String> publicNames = new TreeSet<>();
        for (Method method : bench.getDeclaredMethods()) {
            boolean isPrivate = Modifier.isPrivate(method.getModifiers());
            (isPrivate ? privateNames : publicNames).add(method.getName());
            if (!isPrivate) {
                got.add("public " + method.getReturnType() + " " + method.getName()
                        + told(method.getParameterTypes()));
                Due.isTrue("face: " + method + " is public and no more",
                        method.getModifiers() == Modifier.PUBLIC);
            }
        }
        for (Constructor<?> constructor : bench.getDeclaredConstructors()) {
            got.add("public HorologeBench" + told(constructor.getParameterTypes()));
        }
        Due.is("face: so many lines", due.size(), 68);
        for (String line : due) {
            Due.isTrue("face: has " + line, got.contains(line));
        }
        for (String line : got) {
            Due.isTrue("face: the document has " + line, due.contains(line));
        }
        for (Field field : bench.getDeclaredFields()) {
            Due.isTrue("face: private " + field, Modifier.isPrivate(field.getModifiers()));
        }
        for (Class<?> inside : bench.getDeclaredClasses()) {
            for (Method method : inside.getDeclaredMethods()) {
                privateNames.add(method.getName());
            }
        }
        privateNames.retainAll(publicNames);
        Due.isTrue("face: no private method has a public name", privateNames.isEmpty());
        Due.is("face: public and final", bench.getModifiers(), Modifier.PUBLIC | Modifier.FINAL);
        for (Class<?> inside : bench.getDeclaredClasses()) {
            Due.isTrue("face: static " + inside, Modifier.isStatic(inside.getModifiers()));
            Due.isFalse("face: not public " + inside, Modifier.isPublic(inside.getModifiers()));
        }
        Due.end();
    }

    private static String told(Class<?>[] types) {
        StringBuilder all = new StringBuilder("(");
        for (int i = 0; i < types.length; i++) {
            all.append(i == 0 ? "" : ", ").append(types[i]);
        }
        return all.append(")").toString();
    }
}
