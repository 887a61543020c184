import java.nio.file.Files;
import java.nio.file.Path;
import java.util.List;

/** The example of README.md does what README.md says, and is the one that stands here. */
public final class ReadmeTest {

    public static void main(String[] args) throws Exception {
        example();
        oneText();
        everyCallIsNamed();
        everyTestIsNamed();
        Desk.close();
    }

    private static void due(String what, Object got, Object want) {
        Desk.due(what, got, want);
    }

    // README: from here
    /** Puts a text of up to twenty bytes on an empty tape. */
    static void put(ClueRoom room, String text) {
        int[] n = new int[5];
        for (int k = 0; k < text.length(); k++) n[k / 4] |= text.charAt(k) << 24 - 8 * (k % 4);
        room.feed(n[0], n[1], n[2], n[3], n[4]);
        room.end(text.length());
    }

    static int word(ClueRoom room, String text) {
        put(room, text);
        return room.word();
    }

    static void example() {
        ClueRoom room = new ClueRoom();
        int pet = word(room, "pet");                    // 0
        int back = word(room, "back");                  // 1
        int god = word(room, "god");                    // 2
        int dog = word(room, "dog");                    // 3
        room.means(pet, dog);                           // a pet may be a dog
        room.sign(back, 4);                             // and back a sign of TURN
        put(room, "" + (char) pet + (char) back + (char) god);
        int size = room.clue(0, 3);                     // 3 words: clue 0 is "pet back god", for 3 letters
        int ways = room.readings(0, dog, 0);            // 1 way to read it by "dog", as of day 0
        int cost = room.best(0, dog, 0);                // 4, and OUT is "mA=tB(lC)"
        int first = room.octet(0);                      // 'm'
        int possible = room.possible(0, 0);             // 1 word is possible,
        int only = room.possibleAt(0, 0, 0);            // 3, "dog"
        boolean lit = room.light(0, 0, 0, false);       // true: from the first cell, across
        boolean solution = room.solution(0, dog);       // true
        int solved = room.solve(0);                     // 1 light was entered
        int letter = room.cell(0, 1);                   // 15, an o
        int fillings = room.fillings(0);                // 1 way to fill all lights,
        int filled = room.filled(0);                    // with 3, "dog", in light 0
        int unfair = room.unfair(0);                    // 1 thing is unfair,
        int kind = room.told(0, 0);                     // of kind 4: too few cells are crossed
        put(room, "dog");
        int grid = room.send();                         // 0
        int winner = room.winner(0);                    // 0
        int none = room.readings(0, dog, -1);           // NONE: below day 0 nothing is known
        // README: to here
        int[] got = {pet, back, god, dog, size, ways, cost, first, possible, only, solved, letter, fillings, filled, unfair,
            kind, grid, winner, none};
        int[] want = {0, 1, 2, 3, 3, 1, 4, 'm', 1, 3, 1, 15, 1, 3, 1, 4, 0, 0, ClueRoom.NONE};
        for (int k = 0; k < got.length; k++) due("number " + k + " of the example", got[k], want[k]);
        due("the light", lit, true);
        due("the solution", solution, true);
        StringBuilder out = new StringBuilder();
        for (int k = 0; k < room.count(8); k++) out.append((char) room.octet(k));
        due("OUT", out.toString(), "mA=tB(lC)");
    }

    private static String between(String path, String from, String to) throws Exception {
        StringBuilder s = new StringBuilder();
        boolean on = false;
        for (String line : Files.readAllLines(Path.of(path))) {
            if (on && line.trim().equals(to)) return s.toString();
            if (on && !line.isBlank()) s.append(line.trim()).append('\n');
            if (line.trim().equals(from)) on = true;
        }
        return path + " has no such part";
    }

    private static void oneText() throws Exception {
        String here = between("src/test/java/ReadmeTest.java", "// README: from here", "// README: to here");
        due("the example in README.md", between("README.md", "```java", "```"), here + "}\n");
    }

    private static void everyCallIsNamed() throws Exception {
        String readme = Files.readString(Path.of("README.md"));
        for (java.lang.reflect.Method m : ClueRoom.class.getDeclaredMethods()) {
            if (java.lang.reflect.Modifier.isPublic(m.getModifiers())) {
                due("README.md names " + m.getName(), readme.contains("`" + m.getName() + "("), true);
            }
        }
    }

    private static void everyTestIsNamed() throws Exception {
        String readme = Files.readString(Path.of("README.md"));
        try (java.util.stream.Stream<Path> tests = Files.list(Path.of("src/test/java"))) {
            List<Path> all = tests.toList();
            for (Path test : all) {
                String name = test.getFileName().toString().replace(".java", "");
                due("README.md names " + name, readme.contains("`" + name + "`"), true);
            }
        }
    }
}
