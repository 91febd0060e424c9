import java.util.ArrayList;
import java.util.List;
import java.util.TreeSet;

/** Finds out whether calls leave a trace: two objects with one past, only one of which is asked them, must answer alike. */
final class Trace {
    /** Calls whose answers together show all that an object holds. The last ones tell anew and so show what was. */
    private static List<String> questions(List<String> past) {
        List<String> all = new ArrayList<>();
        List<Integer> lines = someLines(past);
        numbers(all, "told", 8);
        for (String of : List.of("fault", "broken", "untrue", "several", "drop 0", "drop 1")) all.add(of);
        for (int i = 10; i < 20; i++) all.add("drop " + i);
        leans(all);
        numbers(all, "grains", 144);
        for (int line : lines) aboutLine(all, line);
        for (int grain : new int[] {0, 1, 2, 3, 58, 59}) aboutGrain(all, grain);
        for (int one : lines) {
            for (int other : lines) {
                if (one >= other) continue;
                all.add("alike " + one + " " + other);
                all.add("first " + one + " " + other);
            }
        }
        days(all);
        for (int inch = 0; inch < 144; inch++) ends(all, "net 1 " + inch);
        for (int m = 0; m < 6; m++) numbers(all, "way " + m, 6);
        for (int core = 0; core < 6; core++) ends(all, "worth " + (1 << core));
        for (int purse = 0; purse <= 600; purse += 75) ends(all, "next " + purse);
        all.addAll(showing(lines));
        return all;
    }

    private static List<Integer> someLines(List<String> past) {
        TreeSet<Integer> all = new TreeSet<>();
        for (String call : past) {
            String[] parts = call.split(" ");
            if (parts[0].equals("grain")) all.add(24 * Integer.parseInt(parts[1]) + Integer.parseInt(parts[2]));
        }
        while (all.size() > 7) all.remove(all.higher(all.first()));
        return new ArrayList<>(all);
    }

    private static void numbers(List<String> all, String call, int count) {
        for (int i = 0; i < count; i++) all.add(call + " " + i);
    }

    private static void ends(List<String> all, String call) {
        numbers(all, call, 2);
    }

    private static void leans(List<String> all) {
        for (int house = 0; house < 3; house++) {
            for (int stuff = 0; stuff < 3; stuff++) ends(all, "lean " + house + " " + stuff);
        }
    }

    private static void aboutLine(List<String> all, int line) {
        for (int stuff = 0; stuff < 3; stuff++) ends(all, "glass " + line + " " + stuff);
        for (int i = -1; i < 3; i++) all.add("chain " + line + " " + i);
        for (String of : List.of("hour ", "gain ", "washed ")) all.add(of + line);
        for (int m = 0; m < 6; m++) ends(all, "whose " + line + " " + m);
    }

    private static void aboutGrain(List<String> all, int grain) {
        for (int stuff = 0; stuff < 3; stuff++) ends(all, "truly " + grain + " " + stuff);
        numbers(all, "weight " + grain, 6);
    }

    private static void days(List<String> all) {
        for (int day = 0; day < 10; day++) {
            numbers(all, "above " + day, 10);
            ends(all, "net 0 " + day);
            ends(all, "winds " + day);
        }
        numbers(all, "called", 10);
    }

    private static List<String> showing(List<Integer> lines) {
        List<String> all = new ArrayList<>(List.of("rule", "told 6", "broken", "wipe", "slack 3", "told 3"));
        for (int stuff = 0; stuff < 3; stuff++) {
            all.add("piece 0 " + stuff + " 50 51");
            all.add("round 1 2 " + stuff + " 50 51");
        }
        leans(all);
        all.add("grain 3 3 0 50 50 50");
        for (int i = 0; i < 12; i++) all.add("place " + i / 6 + " " + i % 6 + " 7 7");
        for (int line : lines) {
            all.add("tie " + line + " -1");
            all.add("sunk " + line + " false");
            all.add("name " + line + " -1");
        }
        for (int day = 0; day < 10; day++) {
            all.add("born " + day + " -1");
            for (int i = 0; i < 6; i++) all.add("shade " + day + " " + i / 3 + " " + i % 3 + " 7");
        }
        for (int i = 0; i < 66; i++) all.add("look " + i / 11 + " " + i % 11 + " 7");
        for (int m = 0; m < 6; m++) all.add("mountain " + m + " 50 50 50 0");
        return all;
    }

    /** The first answer by which one can tell that the calls were made; empty if there is none. */
    static String of(List<String> past, List<String> calls) {
        List<String> questions = questions(past);
        int room = Ash.CALLS - past.size() - calls.size();
        if (room < 1) return "no room is left to look";
        for (int from = 0; from < questions.size(); from += room) {
            AshLines with = after(past);
            AshLines without = after(past);
            for (String call : calls) Ash.ask(with, call);
            for (String question : questions.subList(from, Math.min(questions.size(), from + room))) {
                long one = Ash.ask(with, question);
                long other = Ash.ask(without, question);
                if (one != other) return question + " is " + one + " and not " + other;
            }
        }
        return "";
    }

    private static AshLines after(List<String> past) {
        AshLines x = new AshLines();
        for (String call : past) Ash.ask(x, call);
        return x;
    }
}
