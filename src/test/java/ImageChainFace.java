import java.lang.reflect.Constructor;
import java.lang.reflect.Field;
import java.lang.reflect.Method;
import java.lang.reflect.Modifier;
import java.util.Set;
import java.util.TreeSet;

/** The class has the document's public face and, beside it, private members alone. */
public final class ImageChainFace {
    private static final String[] FACE = {
        "public static final int BAD_ARG",
        "public static final int FULL",
        "public static final int NONE",
        "public ImageChain()",
        "public int ImageChain.write(int,int)",
        "public int ImageChain.fill(int,int,int)",
        "public int ImageChain.discard(int)",
        "public int ImageChain.read(int)",
        "public boolean ImageChain.said(int)",
        "public int ImageChain.length()",
        "public int ImageChain.overlay()",
        "public int ImageChain.commit()",
        "public int ImageChain.abandon()",
        "public int ImageChain.pull()",
        "public int ImageChain.snapshot()",
        "public int ImageChain.revert(int)",
        "public int ImageChain.forget(int)",
        "public int ImageChain.snapshots()",
        "public int ImageChain.peek(int,int)",
        "public int ImageChain.marked()",
        "public int ImageChain.backup()",
        "public int ImageChain.saved(int)",
        "public int ImageChain.behind()",
        "public int ImageChain.check()",
        "public int ImageChain.digest()"
    };

    public static void main(String[] args) {
        Set<String> want = new TreeSet<>(Set.of(FACE));
        Set<String> got = new TreeSet<>();
        Set<String> publicNames = new TreeSet<>();
        Set<String> faults = new TreeSet<>();
        Class<?> type = ImageChain.class;
        for (Field field : type.getDeclaredFields()) {
            if (!Modifier.isPrivate(field.getModifiers())) {
                got.add(Modifier.toString(field.getModifiers()) + " " + field.getType() + " " + field.getName());
            }
        }
        for (Constructor<?> constructor : type.getDeclaredConstructors()) {
            got.add(constructor.toString());
        }
        for (Method method : type.getDeclaredMethods()) {
            if (!Modifier.isPrivate(method.getModifiers())) {
                got.add(method.toString());
                publicNames.add(method.getName());
            }
        }
        for (Method method : type.getDeclaredMethods()) {
            if (Modifier.isPrivate(method.getModifiers()) && publicNames.contains(method.getName())) {
                faults.add("a private method bears the public name " + method.getName());
            }
        }
        for (String member : want) {
            if (!got.contains(member)) {
                faults.add("missing: " + member);
            }
        }
        for (String member : got) {
            if (!want.contains(member)) {
                faults.add("not in the document: " + member);
            }
        }
        if (type.getModifiers() != (Modifier.PUBLIC | Modifier.FINAL) || type.getDeclaredClasses().length != 0) {
            faults.add("the class is not a lone public final one");
        }
        faults.forEach(System.out::println);
        System.out.println(faults.isEmpty() ? "the public face is as due" : faults.size() + " faults");
        if (!faults.isEmpty()) {
            System.exit(1);
        }
    }
}
