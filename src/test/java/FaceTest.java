import java.lang.reflect.Constructor;
import java.lang.reflect.Field;
import java.lang.reflect.Member;
import java.lang.reflect.Method;
import java.lang.reflect.Modifier;
import java.util.Set;
import java.util.TreeSet;

/** The class has the document's face and no other member that is not private. */
final class FaceTest {
    private static final Set<String> FACE = Set.of(
            "public static final int StrandArchive.NONE",
            "public StrandArchive()",
            "public boolean StrandArchive.load(int,int)",
            "public int StrandArchive.write(int)",
            "public int StrandArchive.letter(int,int)",
            "public void StrandArchive.clear()",
            "public boolean StrandArchive.read(int)",
            "public boolean StrandArchive.readCut(int,int)",
            "public boolean StrandArchive.readGrown(int,int,int)",
            "public boolean StrandArchive.forge(long,long,int)",
            "public boolean StrandArchive.shuffle(int)",
            "public int StrandArchive.heap()",
            "public int StrandArchive.decode(int)",
            "public int StrandArchive.out(int) throws java.util.NoSuchElementException",
            "public int StrandArchive.count(int)",
            "public int StrandArchive.block(int,int) throws java.util.NoSuchElementException",
            "public int StrandArchive.product(int,int)");

    public static void main(String[] args) {
        Check.due("a public final class", Modifier.toString(StrandArchive.class.getModifiers()).equals("public final"), true);
        Check.due("NONE", StrandArchive.NONE, -1);
        Set<String> seen = new TreeSet<>();
        for (Field field : StrandArchive.class.getDeclaredFields()) {
            addVisible(seen, field, field.toString());
        }
        for (Constructor<?> constructor : StrandArchive.class.getDeclaredConstructors()) {
            addVisible(seen, constructor, constructor.toString());
        }
        for (Method method : StrandArchive.class.getDeclaredMethods()) {
            addVisible(seen, method, method.toString());
        }
        for (String member : FACE) {
            Check.due("the face has " + member, seen.contains(member), true);
        }
        for (String member : seen) {
            Check.due("the document has " + member, FACE.contains(member), true);
        }
        checkInside();
        Check.finish("FaceTest");
    }

    private static void addVisible(Set<String> seen, Member member, String text) {
        if (!Modifier.isPrivate(member.getModifiers()) && !member.isSynthetic()) {
            seen.add(text);
        }
    }

    private static void checkInside() {
        Set<String> names = new TreeSet<>();
        for (Method method : StrandArchive.class.getDeclaredMethods()) {
            if (Modifier.isPublic(method.getModifiers())) {
                names.add(method.getName());
            }
        }
        for (Class<?> inside : StrandArchive.class.getDeclaredClasses()) {
            Check.due(inside + " is static", Modifier.isStatic(inside.getModifiers()), true);
            Check.due(inside + " is not public", Modifier.isPublic(inside.getModifiers()), false);
            for (Method method : inside.getDeclaredMethods()) {
                Check.due(method + " bears a name of the face", names.contains(method.getName()), false);
            }
        }
    }
}
