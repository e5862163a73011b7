import java.lang.management.ManagementFactory;
import java.lang.reflect.Constructor;
import java.lang.reflect.Field;
import java.lang.reflect.Method;
import java.lang.reflect.Modifier;
import java.util.Set;
import java.util.TreeSet;

/** The public face is the document's, no more and no less; calls make no objects. */
public final class FaceTests {
    private static final String[] METHODS = {
        "int yard(int,int)", "int cell(int,boolean)", "int type(long,int)", "int read()", "int lay(int,int,int)", "int count(int)",
        "int want(int,int)", "int price(int,int)", "long pavings()", "long share(int)", "int sure(int)", "int place(int,long)",
        "long rank(int)", "int brick(int,int)", "int cheapest(int)", "int cost(int)", "int keep(int,int)", "int bricks(int,int,int)",
        "int most()", "int bar(int,int)", "int bars(int,int)", "int whole()", "int height(int,int,int)", "int turn(int,int,int)",
        "int turns(int,int)", "int settle(int,int)", "int far(int,int)", "int toward(int,int)", "int lines(int)", "long sound()",
        "int rings(int,int)", "int ring(int,int,int)", "int wind(int,int,int)", "int sheet(int,int,int)", "int drop(int)",
        "int item(int,int,int,int)", "int copy(int,int,int,int,int)"};
    private static final String[] CONSTANTS = {"BAD -1", "NOT -2", "FULL -3", "NONE -4", "NULL -11", "CAST -12", "INDEX -13", "SIZE -14"};
    private static int wrong = 0;

    private static void due(String what, Object got, Object want) {
        if (got.equals(want)) return;
        wrong++;
        System.out.println(what + ": " + got + ", due is " + want);
    }

    public static void main(String[] args) throws Exception {
        face();
        callsMakeNothing();
        System.out.println(wrong == 0 ? "the face is as due" : wrong + " wrong");
        if (wrong != 0) System.exit(1);
    }

    private static void face() throws Exception {
        Class<?> type = PavedYards.class;
        due("public and final", Modifier.isPublic(type.getModifiers()) && Modifier.isFinal(type.getModifiers()), true);
        Set<String> methods = new TreeSet<>();
        Set<String> publicNames = new TreeSet<>();
        for (Method m : type.getDeclaredMethods()) {
            if (Modifier.isPrivate(m.getModifiers())) continue;
            methods.add((Modifier.isPublic(m.getModifiers()) && !Modifier.isStatic(m.getModifiers()) ? "" : "hidden ") + told(m));
            publicNames.add(m.getName());
        }
        due("methods", methods, new TreeSet<>(Set.of(METHODS)));
        for (Method m : type.getDeclaredMethods()) {
            if (Modifier.isPrivate(m.getModifiers())) due("private " + m.getName() + " bears a public name", publicNames.contains(m.getName()), false);
        }
        Set<String> constants = new TreeSet<>();
        for (Field f : type.getDeclaredFields()) {
            if (!Modifier.isPrivate(f.getModifiers())) constants.add(f.getName() + " " + f.getInt(null));
        }
        due("constants", constants, new TreeSet<>(Set.of(CONSTANTS)));
        Constructor<?>[] made = type.getDeclaredConstructors();
        due("constructors", made.length, 1);
        due("constructor", Modifier.isPublic(made[0].getModifiers()) && made[0].getParameterCount() == 0, true);
        due("classes of some twelve", type.getDeclaredClasses().length <= 12, true);
    }

    private static String told(Method m) {
        StringBuilder text = new StringBuilder(m.getReturnType().getName()).append(' ').append(m.getName()).append('(');
        String between = "";
        for (Class<?> p : m.getParameterTypes()) {
            text.append(between).append(p.getName());
            between = ",";
        }
        return text.append(')').toString();
    }

    private static void callsMakeNothing() {
        if (!(ManagementFactory.getThreadMXBean() instanceof com.sun.management.ThreadMXBean bean)) return;
        PavedYards y = new PavedYards();
        useAll(y);
        long thread = Thread.currentThread().getId();
        long before = bean.getThreadAllocatedBytes(thread);
        for (int i = 0; i < 12; i++) useAll(y);
        long bytes = bean.getThreadAllocatedBytes(thread) - before;
        // The virtual machine makes a little by itself; one row of the class a round would be far more.
        due("bytes made by calls (" + bytes + ") are few", bytes < 4000, true);
    }

    private static void useAll(PavedYards y) {
        y.yard(8, 8);
        y.sheet(0, 0, 4);
        y.sheet(1, 0, 4);
        y.item(0, 0, 0, 1);
        y.copy(0, 0, 1, 0, 4);
        y.lay(60, 1, 0);
        y.type(0x2E2E3B2E2EL, 5);
        y.read();
        y.yard(8, 8);
        y.want(0, 1);
        y.price(0, 9);
        y.pavings();
        y.share(4);
        y.sure(0);
        y.place(0, 1000);
        y.rank(0);
        y.cheapest(1);
        y.cost(1);
        y.keep(1, 2);
        y.sheet(2, 1, 2);
        y.bricks(0, 2, 1);
        y.most();
        y.bar(0, 0);
        y.bars(0, 0);
        y.height(0, 4, 4);
        y.turns(0, 1);
        y.far(0, 1);
        y.toward(0, 1);
        y.rings(0, 1);
        y.ring(0, 1, 0);
        y.wind(0, 1, 0);
        y.settle(0, 1);
        y.lines(0);
        y.sound();
        y.drop(2);
    }
}
