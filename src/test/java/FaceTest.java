import java.lang.reflect.Member;
import java.lang.reflect.Method;
import java.lang.reflect.Modifier;
import java.util.Arrays;
import java.util.NoSuchElementException;
import java.util.TreeSet;

/** The public face is the document's, with nothing more that others can see. */
public final class FaceTest {
    private static final String METHODS =
        "ahead/1 bare/0 best/2 book/1 bribes/1 capital/0 coat/2 count/1 days/1 drawn/2 end/1 fault/0 feed/5 frost/2 frostAt/2 "
        + "harm/2 hooks/0 image/1 keep/1 laid/0 lay/2 lend/2 man/2 never/0 now/1 odds/3 price/0 queue/1 restore/1 rounds/0 "
        + "rules/1 said/1 seat/2 sentence/0 share/4 surely/0 told/1 turns/0 undo/0 wear/2 word/1";

    public static void main(String[] args) {
        Kit.due("NONE", HeldCoats.NONE, -1);
        Kit.due("final", Modifier.isFinal(HeldCoats.class.getModifiers()), true);
        Kit.due("constructors", HeldCoats.class.getDeclaredConstructors().length, 1);
        TreeSet<String> open = new TreeSet<>();
        for (Method m : HeldCoats.class.getDeclaredMethods()) {
            if (!hidden(m)) {
                open.add(m.getName() + "/" + m.getParameterCount());
                boolean truth = Arrays.asList("end", "image", "restore").contains(m.getName());
                Kit.due(m.getName() + " answers", m.getReturnType() == (truth ? boolean.class : int.class), true);
                boolean throwing = Arrays.asList(m.getExceptionTypes()).contains(NoSuchElementException.class);
                Kit.due(m.getName() + " throws", throwing, m.getName().equals("man") || m.getName().equals("coat"));
            }
        }
        Kit.due("open methods " + open, String.join(" ", open).equals(METHODS), true);
        int openFields = 0;
        for (Member f : HeldCoats.class.getDeclaredFields()) {
            openFields += hidden(f) ? 0 : 1;
        }
        Kit.due("open fields", openFields, 1);
        for (Class<?> inside : HeldCoats.class.getDeclaredClasses()) {
            Kit.due(inside + " is static", Modifier.isStatic(inside.getModifiers()), true);
            Kit.due(inside + " is not open", Modifier.isPublic(inside.getModifiers()) || Modifier.isProtected(inside.getModifiers()), false);
            namesOfItsOwn(inside, open);
        }
        namesOfItsOwn(HeldCoats.class, open);
        Kit.finish("FaceTest");
    }

    private static void namesOfItsOwn(Class<?> holder, TreeSet<String> open) {
        for (Method m : holder.getDeclaredMethods()) {
            if (Modifier.isPrivate(m.getModifiers())) {
                boolean borne = open.stream().anyMatch(o -> o.startsWith(m.getName() + "/"));
                Kit.due(m + " bears a name of its own", borne, false);
            }
        }
    }

    private static boolean hidden(Member m) {
        return Modifier.isPrivate(m.getModifiers()) || m.isSynthetic();
    }
}
