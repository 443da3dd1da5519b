import java.lang.reflect.Constructor;
import java.lang.reflect.Field;
import java.lang.reflect.Method;
import java.lang.reflect.Modifier;
import java.util.Set;
import java.util.TreeSet;

/** The class has the members of the document's public face, and every other member is private. */
public final class FaceTest {
    private static final String FACE = """
            public static final int BAD
            public static final int FULL
            public static final int FOUR_PATH
            public static final int APART
            public CographCotree(int)
            public int addVertex(int)
            public int removeVertex(int)
            public int complement()
            public boolean setWeight(int,int)
            public int size()
            public boolean adjacent(int,int)
            public int distance(int,int)
            public int components(int)
            public int cliqueNumber(int)
            public int cliques(int)
            public int stableSets(int)
            public int heaviestStable(int)
            public int colours(int)
            public boolean isModule(int)
            public int measure(int)
            public int witness(int)
            """;

    public static void main(String[] args) {
        Set<String> due = new TreeSet<>(Set.of(FACE.strip().split("\n")));
        Set<String> found = visibleMembers();
        boolean rightClass = CographCotree.class.getModifiers() == (Modifier.PUBLIC | Modifier.FINAL)
                && CographCotree.class.getDeclaredClasses().length == 0;
        if (!rightClass || !found.equals(due)) {
            System.out.println("the face is " + found + ", due is " + due);
            System.exit(1);
        }
        System.out.println("the face is as due");
    }

    private static Set<String> visibleMembers() {
        Set<String> found = new TreeSet<>();
        for (Field field : CographCotree.class.getDeclaredFields()) {
            add(found, field.getModifiers(), field.toString());
        }
        for (Constructor<?> constructor : CographCotree.class.getDeclaredConstructors()) {
            add(found, constructor.getModifiers(), constructor.toString());
        }
        for (Method method : CographCotree.class.getDeclaredMethods()) {
            add(found, method.getModifiers(), method.toString());
        }
        return found;
    }

    private static void add(Set<String> found, int modifiers, String member) {
        if (!Modifier.isPrivate(modifiers)) {
            found.add(member.replace("CographCotree.", ""));
        }
    }
}
