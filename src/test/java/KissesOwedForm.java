import java.lang.management.ManagementFactory;
import java.lang.reflect.Constructor;
import java.lang.reflect.Field;
import java.lang.reflect.Method;
import java.lang.reflect.Modifier;
import java.nio.charset.StandardCharsets;
import java.nio.file.Files;
import java.nio.file.Path;
import java.util.ArrayList;
import java.util.Arrays;
import java.util.List;
import java.util.TreeSet;
import java.util.regex.Matcher;
import java.util.regex.Pattern;

/** The face of the class, the form of its code as far as a test can see it, and the room that calls take. */
public final class KissesOwedForm {
    private static final String FACE = "feed(int):int street():int person(int,int):int paper(int,int):int "
            + "unwilling(int,int):int owe(int,int,int,int,int):int over(int,int):int go():int back():int "
            + "owes(int,int):int net(int):int payments():int through(int):int nobodyWill():int square(int):int "
            + "soonest(int):int busiest():int gain(int,int):int bestBuy(int):int swings(int,int):int boss(int):int "
            + "corner():int looks(int):int chain(int,int):int inIt():int comesIn(int):int fits():int "
            + "deaths(int,int,int):long hold(int,int):int ring(int):int round():int stands():int rich(int,int):int "
            + "last():int paidBy(int):int trade(int,int):int heirs(int):int stuck():int cancels():int bestOver():int "
            + "relieved(int,int):int power(int,int,int):long atOnce():int rounds():int heaviest(int):int row(int):int "
            + "judge():int clear():int lots(int,int):int image():int restore():int count(int):int";

    private static int wrong = 0;

    private static void must(boolean holds, String what) {
        if (!holds) {
            wrong++;
            System.out.println("not so: " + what);
        }
    }

    public static void main(String[] args) throws Exception {
        face();
        insideClasses();
        text(Files.readString(Path.of("src/main/java/KissesOwed.java"), StandardCharsets.UTF_8));
        room();
        System.out.println(wrong == 0 ? "the form is as due" : wrong + " things are not as due");
        if (wrong != 0) {
            System.exit(1);
        }
    }

    private static String told(Method m) {
        List<String> types = new ArrayList<>();
        for (Class<?> c : m.getParameterTypes()) {
            types.add(c.getName());
        }
        return m.getName() + "(" + String.join(",", types) + "):" + m.getReturnType().getName();
    }

    private static void face() {
        TreeSet<String> seen = new TreeSet<>();
        TreeSet<String> names = new TreeSet<>();
        for (Method m : KissesOwed.class.getDeclaredMethods()) {
            if (!Modifier.isPrivate(m.getModifiers())) {
                must(Modifier.isPublic(m.getModifiers()) && !Modifier.isStatic(m.getModifiers()), "public: " + told(m));
                must(m.getExceptionTypes().length == 0, "throws nothing: " + m);
                seen.add(told(m));
                names.add(m.getName());
            }
        }
        TreeSet<String> due = new TreeSet<>(Arrays.asList(FACE.split(" ")));
        must(due.size() == 52 && seen.equals(due), "the face is the document's, but has " + seen);
        for (Class<?> c : all()) {
            for (Method m : c.getDeclaredMethods()) {
                must(c == KissesOwed.class && !Modifier.isPrivate(m.getModifiers()) || !names.contains(m.getName()),
                        "no other method bears a public name: " + m);
                must(m.getParameterCount() <= 7, "at most seven parameters: " + m);
            }
        }
        Constructor<?>[] made = KissesOwed.class.getDeclaredConstructors();
        must(made.length == 1 && made[0].getParameterCount() == 0 && Modifier.isPublic(made[0].getModifiers()),
                "one public constructor without parameters");
        int mod = KissesOwed.class.getModifiers();
        must(Modifier.isPublic(mod) && Modifier.isFinal(mod) && KissesOwed.class.getPackageName().isEmpty(),
                "public, final, no package");
    }

    private static List<Class<?>> all() {
        List<Class<?>> all = new ArrayList<>();
        all.add(KissesOwed.class);
        all.addAll(Arrays.asList(KissesOwed.class.getDeclaredClasses()));
        return all;
    }

    private static void insideClasses() {
        must(all().size() <= 12, "at most twelve classes");
        for (Class<?> c : all()) {
            int own = 0;
            for (Field f : c.getDeclaredFields()) {
                int mod = f.getModifiers();
                must(Modifier.isPrivate(mod), "private: " + f);
                must(!Modifier.isStatic(mod) || Modifier.isFinal(mod), "no static state: " + f);
                own += Modifier.isStatic(mod) ? 0 : 1;
            }
            must(own <= 20, "at most twenty fields: " + c);
            must(c == KissesOwed.class || Modifier.isStatic(c.getModifiers()), "static: " + c);
            must(c.getDeclaredClasses().length == 0 || c == KissesOwed.class, "no class deeper inside: " + c);
        }
    }

    private static void text(String source) {
        String code = source.replaceAll("(?s)/\\*.*?\\*/", "").replaceAll("//[^\n]*", "")
                .replaceAll("\"(\\\\.|[^\"\\\\])*\"", "\"\"").replaceAll("'(\\\\.|[^'\\\\])'", "' '");
        for (String word : new String[] {"throw", "throws", "try", "catch", "synchronized", "assert", "import",
            "package", "protected", "instanceof", "Object", "double", "float", "System", "Thread", "Random", "equals",
            "hashCode", "toString", "native", "volatile", "var", "yield"}) {
            must(!Pattern.compile("\\b" + word + "\\b").matcher(code).find(), "no " + word);
        }
        must(!code.contains("->") && !code.contains("::") && !code.contains("Exact"), "no lambda, nothing Exact");
        must(!code.contains("\" +") && !code.contains("+ \""), "no text joined by +");
        must(source.chars().allMatch(c -> c < 128), "letters below 128 alone");
        // an index is used in at, put, fill and copy alone, where it is looked at first
        Matcher index = Pattern.compile("\\w\\[(?!\\])[^\\]]+\\]").matcher(code.replaceAll("new int\\[[^\\]]*\\]", ""));
        int indices = 0;
        while (index.find()) {
            indices++;
        }
        must(indices == 5, "five places that use an index, but there are " + indices);
        int from = -1;
        String[] lines = source.split("\n");
        for (int i = 0; i < lines.length; i++) {
            if (lines[i].matches("( {4}| {8})(public|private|int|boolean|void|static)\\b.*\\{")
                    && !lines[i].contains(" class ")) {
                from = i;
            } else if (from >= 0 && lines[i].matches(" {4}( {4})?\\}")
                    && lines[i].indexOf('}') == lines[from].length() - lines[from].stripLeading().length()) {
                must(i - from <= 60, "short: " + lines[from].strip());
                from = -1;
            }
        }
    }

    private static void tell(KissesOwed x, String text) {
        for (int i = 0; i < text.length(); i++) {
            x.feed(text.charAt(i));
        }
        must(x.street() > 0, "a STREET: " + text);
    }

    /** Asks all calls that reckon; what they answer is for other tests. */
    private static void askAll(KissesOwed x) {
        for (int i = 0; i < 7; i++) {
            x.person(i, 3);
            x.net(i);
            x.bestBuy(i);
            x.hold(i, 3);
            x.relieved(i, 1);
            x.rich(i, 999);
            x.heirs(i);
            x.comesIn(i);
            x.boss(i);
            for (int j = 0; j < 7; j++) {
                x.gain(i, j);
                x.swings(i, j);
                x.power(i, j, 0);
                x.trade(i, j);
                x.chain(i, j);
                x.owes(i, j);
            }
        }
        x.payments();
        x.through(0);
        x.through(1);
        x.square(0);
        x.square(1);
        x.soonest(0);
        x.busiest();
        x.corner();
        x.fits();
        x.ring(0);
        x.round();
        x.stands();
        x.paidBy(98);
        x.stuck();
        x.cancels();
        x.bestOver();
        x.atOnce();
        x.rounds();
        x.heaviest(0);
        x.lots(20, 7);
        x.image();
        x.go();
        x.back();
        x.restore();
    }

    /** All calls of a run share one room, so no call may make anything and a new object may be small only. */
    private static void room() {
        com.sun.management.ThreadMXBean bean = (com.sun.management.ThreadMXBean) ManagementFactory.getThreadMXBean();
        long me = Thread.currentThread().getId();
        KissesOwed x = new KissesOwed();
        tell(x, "p00;p13;p24;p35;p49;p52;p07;u12;");
        tell(x, "o010510=;o120620=;o230730=;o340840=;o450950=;o561060=;o601170=;");
        askAll(x);
        long before = bean.getThreadAllocatedBytes(me);
        for (int i = 0; i < 5; i++) {
            askAll(x);
        }
        long calls = bean.getThreadAllocatedBytes(me) - before;
        must(calls < 20000, "calls make next to nothing, but they made " + calls + " bytes");
        before = bean.getThreadAllocatedBytes(me);
        KissesOwed y = new KissesOwed();
        long made = bean.getThreadAllocatedBytes(me) - before;
        must(made < 20000 && y.count(0) == 0, "a new object is small, but it has " + made + " bytes");
    }
}
