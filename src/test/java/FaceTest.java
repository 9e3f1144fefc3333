import java.lang.reflect.Constructor;
import java.lang.reflect.Field;
import java.lang.reflect.Method;
import java.lang.reflect.Modifier;
import java.util.TreeSet;

/** The public face is the document's, and no other member can be seen from outside. */
public final class FaceTest {
    public static void main(String[] args) {
        TreeSet<String> seen = new TreeSet<>();
        for (Constructor<?> c : HeaderDesk.class.getDeclaredConstructors()) {
            if (!Modifier.isPrivate(c.getModifiers())) {
                seen.add(c.toString());
            }
        }
        for (Method m : HeaderDesk.class.getDeclaredMethods()) {
            if (!Modifier.isPrivate(m.getModifiers())) {
                seen.add(m.toString());
            }
        }
        for (Field f : HeaderDesk.class.getDeclaredFields()) {
            if (!Modifier.isPrivate(f.getModifiers())) {
                seen.add(f.toString());
            }
        }
        TreeSet<String> face = new TreeSet<>();
        face.add("public HeaderDesk()");
        face.add("public boolean HeaderDesk.put(long,int)");
        face.add("public int HeaderDesk.read()");
        face.add("public int HeaderDesk.field(int,int)");
        face.add("public long HeaderDesk.bytes(int,int,int)");
        face.add("public long HeaderDesk.address(int,int,int)");
        face.add("public int HeaderDesk.part(int,int,int)");
        face.add("public int HeaderDesk.find(int,int)");
        face.add("public int HeaderDesk.count(int)");
        Check.due("the face", seen.toString(), face.toString());
        int modifiers = HeaderDesk.class.getModifiers();
        Check.due("public and final", Modifier.isPublic(modifiers) && Modifier.isFinal(modifiers), true);
        Check.end();
    }
}
