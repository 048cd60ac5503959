import java.lang.reflect.Constructor;
import java.lang.reflect.Field;
import java.lang.reflect.Method;
import java.lang.reflect.Modifier;
import java.util.Arrays;
import java.util.Set;
import java.util.TreeSet;

/** The public face: exactly the members of the document. */
public final class FaceTest {
    private static final String FACE = "append(int)int clearText()int errorPosition()int load()int"
        + " phaseOf(int)int keyOf(int)int levelOf(int)int isKept(int)boolean sounding()int oldest()int"
        + " loudnessByVoices()int loudnessByPhases()int isDown(int)boolean voiceOf(int)int keysDown()int"
        + " keysWaiting()int nextBack()int isPedalDown()boolean notesByBeginning()int notesByEnds()int"
        + " stolen()int refused()int ticks()int rule()int press(int,int)int letGo(int)int setPedal(boolean)int"
        + " setRising(int,int)int setStaying(int,int)int setRule(int)int setComingBack(boolean)int pass(int)int"
        + " undo()int voiceFor(int)int howFor(int)int victim()int freeByRunning(int)int freeByReckoning(int)int"
        + " loudestIn(int)int quietIn()int simulate(long,int)int save(int)int restore(int)int";

    public static void main(String[] args) throws Exception {
        Set<String> face = new TreeSet<>();
        Set<String> names = new TreeSet<>();
        for (Method m : StolenVoices.class.getDeclaredMethods()) {
            if (Modifier.isPublic(m.getModifiers())) {
                face.add(m.getName() + parameters(m) + m.getReturnType().getName());
                names.add(m.getName());
                Check.same(m.getName() + " is of objects", false, Modifier.isStatic(m.getModifiers()));
            }
        }
        Check.same("the public methods", new TreeSet<>(Arrays.asList(FACE.split(" "))), face);
        checkPrivateNames(StolenVoices.class, names);
        for (Class<?> inside : StolenVoices.class.getDeclaredClasses()) {
            checkPrivateNames(inside, names);
        }
        checkFields();
        Constructor<?>[] makers = StolenVoices.class.getDeclaredConstructors();
        Check.same("constructors", 1, makers.length);
        Check.same("its parameters", 0, makers[0].getParameterCount());
        Check.same("it is public", true, Modifier.isPublic(makers[0].getModifiers()));
        int of = StolenVoices.class.getModifiers();
        Check.same("public and final", true, Modifier.isPublic(of) && Modifier.isFinal(of));
        Check.end();
    }

    private static String parameters(Method m) {
        StringBuilder text = new StringBuilder("(");
        for (Class<?> type : m.getParameterTypes()) {
            text.append(text.length() > 1 ? "," : "").append(type.getName());
        }
        return text.append(")").toString();
    }

    private static void checkPrivateNames(Class<?> in, Set<String> names) {
        for (Method m : in.getDeclaredMethods()) {
            if (!Modifier.isPublic(m.getModifiers())) {
                Check.same(m + " bears a name of its own", false, names.contains(m.getName()));
                Check.same(m + " is private in the class of the face", true,
                    in != StolenVoices.class || Modifier.isPrivate(m.getModifiers()));
            }
        }
    }

    private static void checkFields() throws Exception {
        for (Field f : StolenVoices.class.getDeclaredFields()) {
            boolean isNone = f.getName().equals("NONE");
            Check.same(f.getName() + " is public", isNone, Modifier.isPublic(f.getModifiers()));
            Check.same(f.getName() + " is private", !isNone, Modifier.isPrivate(f.getModifiers()));
            if (Modifier.isStatic(f.getModifiers())) {
                Check.same(f.getName() + " is final", true, Modifier.isFinal(f.getModifiers()));
            }
        }
        Check.same("NONE", -1, StolenVoices.class.getField("NONE").getInt(null));
    }
}
