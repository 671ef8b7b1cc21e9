import java.lang.reflect.Array;
import java.lang.reflect.Field;
import java.lang.reflect.Modifier;
import java.util.ArrayList;
import java.util.IdentityHashMap;
import java.util.List;
import java.util.Map;

/**
 * How much one object holds, when it is new and after the calls that make most: all calls of one run live in one room.
 * That no call makes anything but profiles is seen by LanguageTest.
 */
public final class RoomTest {
    private static final int MOST_OBJECTS = 200;
    private static final int MOST_ELEMENTS = 10000;
    /** Six profiles of one object and three rows each. */
    private static final int OBJECTS_OF_PROFILES = 24;

    private static int wrong;
    private final Map<Object, Boolean> seen = new IdentityHashMap<>();
    private int elements;

    public static void main(String[] args) throws IllegalAccessException {
        ClaySurvey survey = new ClaySurvey();
        RoomTest before = new RoomTest();
        before.count(survey);
        callAll(survey);
        RoomTest after = new RoomTest();
        after.count(survey);
        most("objects", after.seen.size(), MOST_OBJECTS);
        most("fields and elements", after.elements, MOST_ELEMENTS);
        most("objects more than at first", after.seen.size() - before.seen.size(), OBJECTS_OF_PROFILES);
        System.out.println(wrong == 0 ? after.seen.size() + " objects, " + after.elements + " fields and elements"
                : "too much room is taken");
        System.exit(wrong == 0 ? 0 : 1);
    }

    private static void most(String what, int got, int most) {
        if (got > most) {
            wrong++;
            System.out.println(what + ": " + got + ", at most " + most + " are due");
        }
    }

    private static void callAll(ClaySurvey survey) {
        for (int profile = 0; profile < 6; profile++) {
            survey.profile();
            for (int layer = 0; layer < 4; layer++) {
                survey.layer(profile, 50, 10 * layer, 20);
            }
        }
        survey.begin(10, 10);
        for (int round = 0; round < 30; round++) {
            survey.scatter(round, 100);
            survey.type(0x61);
            survey.errorKind();
            survey.ground(round + 20, round % 6);
            survey.rain(3);
            survey.step(2);
            survey.sun(1);
            survey.write(round % 3);
            survey.errors(500);
            survey.wallCost(700, 11 + round % 8);
            survey.sill(round, 99 - round);
            survey.undo();
        }
    }

    private void count(Object one) throws IllegalAccessException {
        if (one == null || seen.put(one, true) != null) {
            return;
        }
        if (one.getClass().isArray()) {
            elements += Array.getLength(one);
            for (int at = 0; at < Array.getLength(one) && !one.getClass().getComponentType().isPrimitive(); at++) {
                count(Array.get(one, at));
            }
        } else if (one instanceof ArrayList<?> list) {
            // its own row, of which some places may be empty
            elements += 2 * list.size();
            for (Object inside : List.copyOf(list)) {
                count(inside);
            }
        } else {
            countFields(one);
        }
    }

    private void countFields(Object one) throws IllegalAccessException {
        for (Field field : one.getClass().getDeclaredFields()) {
            if (!Modifier.isStatic(field.getModifiers())) {
                elements++;
                field.setAccessible(true);
                if (!field.getType().isPrimitive()) {
                    count(field.get(one));
                }
            }
        }
    }
}
