import java.lang.reflect.Field;
import java.lang.reflect.Method;
import java.lang.reflect.Modifier;
import java.nio.file.Files;
import java.nio.file.Path;
import java.util.Arrays;
import java.util.List;
import java.util.TreeSet;
import java.util.regex.Matcher;
import java.util.regex.Pattern;

/** The face of the document, and those rules of LANGUAGE.md that can be seen from words alone. */
public final class LanguageTest {
    private static final Due due = new Due();

    public static void main(String[] args) throws Exception {
        face();
        String source = Files.readString(Path.of("src/main/java/WindLawyer.java"));
        String code = source.replaceAll("(?s)/\\*.*?\\*/|//[^\\n]*", "");
        words(code);
        lengths(code);
        due.end();
    }

    private static void face() {
        String told = "int island() int wind(int,int,int) int user(int,int,int) int type(int) int clear() int read() "
                + "int hour(int) int suit(int,int) int hears(int) int pays(int) int undo() int of(int,int) int about(int,int) "
                + "int blows(int,int,int) int takes(int,int) int then(int,int) int calm(int) int place(int,int,int) "
                + "int share(int) int award(int) int court(int) int settle() int reading(int,int,int) int stood(int) "
                + "int note(int,int,int,int,int) int mark(int,int,int,int) int forget(int) int is(int) int look(int) "
                + "int kinds(int) int tries(int) int parties(int) int calms(int,int,int) int years(int,int) long part(int) "
                + "int image(int) int from(int) int status(int) int count(int) long digest()";
        TreeSet<String> wanted = new TreeSet<>(List.of(told.split("(?<=\\)) ")));
        TreeSet<String> found = new TreeSet<>();
        TreeSet<String> names = new TreeSet<>();
        for (Method m : WindLawyer.class.getDeclaredMethods()) {
            if (!Modifier.isPrivate(m.getModifiers())) {
                found.add(m.getReturnType() + " " + m.getName()
                        + Arrays.stream(m.getParameterTypes()).map(Class::getName).toList().toString()
                                .replace("[", "(").replace("]", ")").replace(" ", ""));
                names.add(m.getName());
            }
        }
        if (!found.equals(wanted)) {
            System.out.println("the face is " + found);
        }
        due.is("the face", found.equals(wanted) ? 1 : 0, 1);
        for (Class<?> inside : WindLawyer.class.getDeclaredClasses()) {
            due.is(inside + " is static", Modifier.isStatic(inside.getModifiers()) ? 1 : 0, 1);
            due.is(inside + " is public", Modifier.isPublic(inside.getModifiers()) ? 1 : 0, 0);
            for (Method m : inside.getDeclaredMethods()) {
                due.is(m + " bears a name of the face", names.contains(m.getName()) ? 1 : 0, 0);
            }
        }
        for (Method m : WindLawyer.class.getDeclaredMethods()) {
            due.is(m + ": a private one of a public name",
                    Modifier.isPrivate(m.getModifiers()) && names.contains(m.getName()) ? 1 : 0, 0);
        }
        fields(WindLawyer.class);
        for (Class<?> inside : WindLawyer.class.getDeclaredClasses()) {
            fields(inside);
        }
        due.is("at most twelve classes", WindLawyer.class.getDeclaredClasses().length <= 11 ? 1 : 0, 1);
    }

    private static void fields(Class<?> one) {
        long fields = Arrays.stream(one.getDeclaredFields()).filter(f -> !Modifier.isStatic(f.getModifiers())).count();
        due.is(one + " has twenty fields at most beside its constants", fields <= 20 ? 1 : 0, 1);
        for (Field field : one.getDeclaredFields()) {
            boolean free = Modifier.isStatic(field.getModifiers()) && !Modifier.isFinal(field.getModifiers());
            due.is(field + " is static and not final", free ? 1 : 0, 0);
        }
    }

    private static void words(String code) {
        String[] none = {"\\bthrow", "\\btry\\b", "\\bcatch\\b", "\\bsynchronized\\b", "\\bassert\\b", "->", "::", "\\bimport\\b",
            "\\bpackage\\b", "\\bprotected\\b", "Exact\\b", "\\bdouble\\b", "\\bfloat\\b", "static \\{", "@", "\\binstanceof\\b",
            "[^\\x00-\\x7f]"};
        for (String word : none) {
            due.is("found " + word, Pattern.compile(word).matcher(code).find() ? 1 : 0, 0);
        }
        // All objects are made with the object itself, so no run of calls can fill the room.
        for (String line : code.split("\n")) {
            boolean made = Pattern.compile("\\bnew\\b").matcher(line).find();
            boolean early = line.matches("    (    )?(private )?final \\w+(\\[\\])? \\w+ = new .*")
                    || line.equals("            cells = new int[limit * width];");
            due.is("made late: " + line, made && !early ? 1 : 0, 0);
        }
    }

    private static void lengths(String code) {
        int opened = 0;
        int start = 0;
        String name = "";
        String[] lines = code.split("\n");
        Pattern head = Pattern.compile("^\\s+(?:public |private |static |final )*[\\w\\[\\]]+ (\\w+)\\((.*)\\) \\{$");
        for (int i = 0; i < lines.length; i++) {
            Matcher m = head.matcher(lines[i]);
            if (m.matches() && !lines[i].contains(" else ")) {
                name = m.group(1);
                start = i;
                due.is(name + " takes seven at most", m.group(2).split(",").length <= 7 ? 1 : 0, 1);
            }
            if (lines[i].matches("    (    )?\\}") && !name.isEmpty()) {
                due.is(name + " is short", i - start <= 60 ? 1 : 0, 1);
                name = "";
                opened++;
            }
        }
        due.is("methods were found", opened > 60 ? 1 : 0, 1);
    }
}
