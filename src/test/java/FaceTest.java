import java.lang.reflect.Constructor;
import java.lang.reflect.Field;
import java.lang.reflect.Method;
import java.lang.reflect.Modifier;
import java.nio.file.Files;
import java.nio.file.Path;
import java.util.ArrayList;
import java.util.Arrays;
import java.util.List;
import java.util.NoSuchElementException;
import java.util.TreeSet;
import java.util.regex.Matcher;
import java.util.regex.Pattern;

/** The class has the document's face and no more, and what a run makes keeps to its room. */
public final class FaceTest {
    private static final String[] FACE = {
        "agrees()int", "ask()int", "askLeaves()int", "back(int)boolean", "cell(int,int)int", "cellsFor(int)int", "commit()int",
        "commitable()int", "commits(int)int", "core(int)int", "could()int", "crowd(int)int", "cycles(int)int",
        "drawnCommits(int,int)int", "drawnValue(int,int,int)int", "entries()int", "entry(int,int)int", "fault()int",
        "feed(int,int,int,int,int)int", "fetch()int", "fetchable()int", "fitAt(int)int", "fits()int", "free()int", "gives(int)int",
        "image()int", "judge()int", "kept(int)int", "led(int)int", "letGo()int", "mapped(int)int", "misses(int)int", "nextStep()int",
        "plainAt(int,int)int", "plainEnd()int", "plainMisses()int", "plainStep(int)int", "plainSteps()int", "rate(int,boolean)long",
        "ready()int", "resume(int)boolean", "run(int)int", "runnable()int", "saved(int,int)int", "size(int)int", "surely()int",
        "trouble()int", "undo()boolean", "value(int)int", "walked(int,int)int", "where()int"
    };

    private FaceTest() {
    }

    public static void main(String[] args) throws Exception {
        Check.due("NONE", RenamedCells.NONE, -1);
        int modifiers = RenamedCells.class.getModifiers();
        Check.due("public and final", Modifier.isPublic(modifiers) && Modifier.isFinal(modifiers), true);
        asTheDocumentHasIt();
        methods();
        fields();
        Constructor<?>[] made = RenamedCells.class.getDeclaredConstructors();
        Check.due("constructors", made.length, 1);
        Check.due("constructor", Modifier.isPublic(made[0].getModifiers()) && made[0].getParameterCount() == 0, true);
        for (Class<?> inside : RenamedCells.class.getDeclaredClasses()) {
            Check.due("static: " + inside, Modifier.isStatic(inside.getModifiers()), true);
            Check.due("not public: " + inside, Modifier.isPublic(inside.getModifiers()), false);
        }
        room();
        Check.end("FaceTest");
    }

    private static String written(Method m) {
        List<String> types = new ArrayList<>();
        for (Class<?> p : m.getParameterTypes()) {
            types.add(p.getSimpleName());
        }
        return m.getName() + "(" + String.join(",", types) + ")" + m.getReturnType().getSimpleName();
    }

    /** The face above is the one of the document's page, if that is there. */
    private static void asTheDocumentHasIt() throws Exception {
        Path page = Path.of(System.getProperty("shared", "../shared"), "DOC.md");
        if (!Files.exists(page)) {
            System.out.println("no " + page + ": the face is not compared with it");
            return;
        }
        TreeSet<String> told = new TreeSet<>();
        Matcher m = Pattern.compile("(?m)^    public (\\w+) (\\w+)\\(([^)]*)\\)( throws NoSuchElementException)?;").matcher(Files.readString(page));
        while (m.find()) {
            told.add(m.group(2) + "(" + m.group(3).replaceAll(" \\w+(,|$)", "$1").replace(", ", ",") + ")" + m.group(1));
            Check.due("throws: " + m.group(2), m.group(4) != null, m.group(2).equals("led"));
        }
        Check.due("the document's face: " + told, told.equals(new TreeSet<>(Arrays.asList(FACE))), true);
    }

    private static void methods() {
        TreeSet<String> found = new TreeSet<>();
        TreeSet<String> names = new TreeSet<>();
        for (Method m : RenamedCells.class.getDeclaredMethods()) {
            if (!Modifier.isPrivate(m.getModifiers())) {
                Check.due("public: " + m, Modifier.isPublic(m.getModifiers()) && !Modifier.isStatic(m.getModifiers()), true);
                boolean throwsOne = Arrays.equals(m.getExceptionTypes(), new Class<?>[] {NoSuchElementException.class});
                Check.due("throws: " + m, m.getName().equals("led") ? throwsOne : m.getExceptionTypes().length == 0, true);
                found.add(written(m));
                names.add(m.getName());
            }
        }
        TreeSet<String> due = new TreeSet<>(Arrays.asList(FACE));
        Check.due("methods " + found + ", due are " + due, found.equals(due), true);
        privateNames(RenamedCells.class, names);
        for (Class<?> inside : RenamedCells.class.getDeclaredClasses()) {
            privateNames(inside, names);
        }
    }

    private static void privateNames(Class<?> of, TreeSet<String> taken) {
        for (Method m : of.getDeclaredMethods()) {
            boolean inside = of != RenamedCells.class || Modifier.isPrivate(m.getModifiers());
            if (inside) {
                Check.due("a name of its own: " + m, taken.contains(m.getName()), false);
                Check.due("at most seven parameters: " + m, m.getParameterCount() <= 7, true);
            }
        }
    }

    private static void fields() throws Exception {
        Field none = RenamedCells.class.getDeclaredField("NONE");
        int due = Modifier.PUBLIC | Modifier.STATIC | Modifier.FINAL;
        Check.due("NONE is public, static, final, an int", none.getModifiers() == due && none.getType() == int.class, true);
        for (Field f : RenamedCells.class.getDeclaredFields()) {
            boolean isPrivate = Modifier.isPrivate(f.getModifiers());
            Check.due("private: " + f, isPrivate || f.getName().equals("NONE"), true);
        }
        notTooMany(RenamedCells.class);
        for (Class<?> inside : RenamedCells.class.getDeclaredClasses()) {
            notTooMany(inside);
        }
    }

    private static void notTooMany(Class<?> of) {
        int count = 0;
        for (Field f : of.getDeclaredFields()) {
            boolean isStatic = Modifier.isStatic(f.getModifiers());
            Check.due("final: " + f, !isStatic || Modifier.isFinal(f.getModifiers()), true);
            count += isStatic ? 0 : 1;
        }
        Check.due(of.getSimpleName() + " has " + count + " fields", count <= 20, true);
    }

    private static final String DEAR =
            "core cells 9 window 12 saves 4 share 4 early;set 1 5;move 2 1;add 3 1 2;skip 0 1 0 yes;skip 0 0 0 no";

    /** Bytes that this thread has had: an int is four, so they tell of the elements. */
    private static long had() {
        com.sun.management.ThreadMXBean bean =
                (com.sun.management.ThreadMXBean) java.lang.management.ManagementFactory.getThreadMXBean();
        return bean.getThreadAllocatedBytes(Thread.currentThread().getId());
    }

    private static void room() {
        useUp(new RenamedCells());
        had();
        long before = had();
        RenamedCells x = new RenamedCells();
        long made = had() - before;
        Check.due("a new object has " + made + " bytes", made < 40000, true);
        Check.tell(x, DEAR);
        before = had();
        useUp(x);
        long used = had() - before;
        Check.due("the dear calls have " + used + " bytes", used < 4000, true);
    }

    private static void useUp(RenamedCells x) {
        for (int k = 0; k < 20; k++) {
            x.fetch();
            x.run(k % 5);
            x.commit();
            x.undo();
            x.image();
            x.back(k % 3);
            x.cellsFor(0);
            x.cycles(9 + k % 16);
            x.rate(24, true);
            x.fits();
            x.ask();
            x.drawnCommits(k, 300);
            x.drawnValue(1, k, 300);
            x.plainAt(1, 200);
            x.agrees();
            x.gives(0);
            x.core(0);
        }
    }
}
