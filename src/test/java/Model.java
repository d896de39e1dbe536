import java.util.ArrayList;
import java.util.HashMap;
import java.util.List;
import java.util.Map;

/**
 * The document once more, written apart from the class and as slowly as it likes: lists, regular
 * expressions, recursion with a map. RandomRunsTest compares the two.
 */
final class Model {
    static final int UNKNOWN = -1, OUTSIDE = -2, STATE = -3, FULL = -4, NO = -5, NONE = -6;

    private record Leg(int hours, int ships, int squall) { }

    private record Deed(int thing, boolean bell) { }

    private record Hour(int ships, int blind) {
        int risk() {
            return ships * blind;
        }
    }

    private record Kept(List<List<Leg>> ways, int[] give, int[] deep) { }

    private List<List<Leg>> ways = List.of(new ArrayList<>(), new ArrayList<>());
    private int[] give = {0, 1, 2, 6};
    private int[] deep = {0, 200, 500, 800};
    private String pad = "";
    private final Kept[] kept = new Kept[2];
    private final Map<Integer, Integer> memo = new HashMap<>();

    private static boolean in(int v, int a, int b) {
        return a <= v && v <= b;
    }

    private static boolean isWay(int way) {
        return way == 0 || way == 1;
    }

    private int hours(int way) {
        int sum = 0;
        for (Leg l : ways.get(way)) {
            sum += l.hours;
        }
        return sum;
    }

    private Leg legAt(int way, int hour) {
        int behind = 0;
        for (Leg l : ways.get(way)) {
            behind += l.hours;
            if (hour < behind) {
                return l;
            }
        }
        return null;
    }

    private boolean can(int way, int hour, int thing) {
        Leg here = legAt(way, hour);
        if (here == null) {
            return false;
        }
        Leg there = legAt(way, hour + 1);
        return switch (thing) {
            case 0 -> true;
            case 3 -> here.squall == 0 && there != null && there.squall == 0;
            default -> here.squall == 0;
        };
    }

    private int after(int way, int hour, int owed, int thing) {
        int change = switch (thing) {
            case 0 -> legAt(way, hour).squall == 1 ? 2 : 1;
            case 4 -> -1;
            default -> -give[thing] - (hour / 12 % 2 == 1 ? 1 : 0);
        };
        return Math.min(20, Math.max(0, owed + change));
    }

    private int blind(Deed deed, int owed) {
        int over = owed > 10 ? owed - 10 : 0;
        int b = switch (deed.thing) {
            case 0 -> 20 + 10 * over;
            case 4 -> 300;
            default -> Math.min(1000, deep[deed.thing] + 20 * over);
        };
        int heard = owed < 15 ? 600 - 40 * owed : 0;
        return deed.bell ? b * (1000 - heard) / 1000 : b;
    }

    private static int cost(Deed deed) {
        return deed.bell ? (deed.thing == 3 ? 2 : 1) : 0;
    }

    private static int made(int thing) {
        return new int[] {1, 1, 1, 2, 0}[thing];
    }

    private List<Hour> hoursOf(int way, int hour, int owed, Deed deed) {
        List<Hour> row = new ArrayList<>();
        row.add(new Hour(legAt(way, hour).ships, blind(deed, owed)));
        if (deed.thing == 3) {
            row.add(new Hour(legAt(way, hour + 1).ships, blind(deed, owed)));
        }
        return row;
    }

    private static int safe(List<Hour> row) {
        return safe(row, 1000000);
    }

    private static int safe(List<Hour> row, int behind) {
        long s = behind;
        for (int i = row.size() - 1; i >= 0; i--) {
            s = s * (1000000 - row.get(i).risk()) / 1000000;
        }
        return (int) s;
    }

    int leg(int way, int hours, int ships, int squall) {
        if (!isWay(way)) return UNKNOWN;
        if (!in(hours, 1, 24) || !in(ships, 0, 500) || !in(squall, 0, 1)) return OUTSIDE;
        if (ways.get(way).size() == 8 || hours(way) + hours > 48) return FULL;
        ways.get(way).add(new Leg(hours, ships, squall));
        memo.clear();
        return hours(way);
    }

    int cut(int way) {
        if (!isWay(way)) return UNKNOWN;
        List<Leg> legs = ways.get(way);
        if (legs.isEmpty()) return NO;
        legs.remove(legs.size() - 1);
        memo.clear();
        return legs.size();
    }

    int about(int way, int leg, int what) {
        if (!isWay(way) || !in(leg, 0, ways.get(way).size() - 1)) return UNKNOWN;
        if (!in(what, 0, 3)) return OUTSIDE;
        Leg l = ways.get(way).get(leg);
        int first = 0;
        for (Leg ahead : ways.get(way).subList(0, leg)) {
            first += ahead.hours;
        }
        return new int[] {l.hours, l.ships, l.squall, first}[what];
    }

    int nap(int nap, int what, int v) {
        if (!in(nap, 1, 3) || !in(what, 0, 1) || !in(v, 0, what == 0 ? 9 : 1000)) return OUTSIDE;
        int[] row = what == 0 ? give : deep;
        int was = row[nap];
        row[nap] = v;
        memo.clear();
        return was;
    }

    int owed(int way, int hour, int owed, int thing) {
        if (!isWay(way)) return UNKNOWN;
        if (!in(hour, 0, hours(way) - 1) || !in(owed, 0, 20) || !in(thing, 0, 4)) return OUTSIDE;
        return can(way, hour, thing) ? after(way, hour, owed, thing) : NO;
    }

    int risk(int way, int hour, int owed, int thing, int bell) {
        if (!isWay(way)) return UNKNOWN;
        if (!in(hour, 0, hours(way) - 1) || !in(owed, 0, 20) || !in(thing, 0, 4) || !in(bell, 0, 1)) return OUTSIDE;
        if (!can(way, hour, thing) || thing == 0 && bell == 1) return NO;
        return hoursOf(way, hour, owed, new Deed(thing, bell == 1)).get(0).risk();
    }

    int say(int sign) {
        if (!in(sign, 33, 126)) return OUTSIDE;
        if (pad.length() == 60) return FULL;
        pad += (char) sign;
        return pad.length();
    }

    int wipe() {
        int n = pad.length();
        pad = "";
        return n;
    }

    private static final String WHOLE = "(w|!?(1|2|3\\.|l))*";

    int fault() {
        if (pad.matches(WHOLE)) return NONE;
        for (int n = 1; n <= pad.length(); n++) {
            String head = pad.substring(0, n);
            boolean goesOn = head.matches(WHOLE) || (head + ".").matches(WHOLE) || (head + "1").matches(WHOLE);
            if (!goesOn) return n - 1;
        }
        return pad.length();
    }

    private List<Deed> deeds() {
        List<Deed> row = new ArrayList<>();
        String left = pad.replace(".", "");
        while (!left.isEmpty()) {
            boolean bell = left.startsWith("!");
            row.add(new Deed("w123l".indexOf(left.charAt(bell ? 1 : 0)), bell));
            left = left.substring(bell ? 2 : 1);
        }
        return row;
    }

    private List<Hour> passed;
    private int[] outcome;

    private void sail(int way, int owed, int battery) {
        passed = new ArrayList<>();
        int hour = 0;
        int bad = NONE;
        List<Deed> row = deeds();
        for (int i = 0; i < row.size() && bad == NONE; i++) {
            Deed d = row.get(i);
            if (!can(way, hour, d.thing) || cost(d) > battery) {
                bad = i;
            } else {
                passed.addAll(hoursOf(way, hour, owed, d));
                owed = after(way, hour, owed, d.thing);
                battery -= cost(d);
                hour += made(d.thing);
            }
        }
        int worst = NONE;
        for (int i = 0; i < passed.size(); i++) {
            if (worst == NONE || passed.get(i).risk() > passed.get(worst).risk()) worst = i;
        }
        outcome = new int[] {bad, passed.size(), owed, safe(passed), worst, hour, battery};
    }

    int judge(int way, int owed, int battery, int what) {
        if (!isWay(way)) return UNKNOWN;
        if (!in(owed, 0, 20) || !in(battery, 0, 24) || !in(what, 0, 6)) return OUTSIDE;
        if (fault() != NONE) return NO;
        sail(way, owed, battery);
        return outcome[what];
    }

    private static final List<Deed> ORDER = List.of(new Deed(0, false), new Deed(1, false), new Deed(1, true),
        new Deed(2, false), new Deed(2, true), new Deed(3, false), new Deed(3, true), new Deed(4, false),
        new Deed(4, true));

    /** SAFE by a deed, best from there on; -1 if it can not be. */
    private int by(int way, int hour, int owed, int battery, int lies, Deed d) {
        int liesLeft = d.thing == 4 ? lies - 1 : lies;
        if (!can(way, hour, d.thing) || cost(d) > battery || liesLeft < 0) return -1;
        int behind = bestOf(way, hour + made(d.thing), after(way, hour, owed, d.thing), battery - cost(d), liesLeft);
        return safe(hoursOf(way, hour, owed, d), behind);
    }

    private int bestOf(int way, int hour, int owed, int battery, int lies) {
        if (hour == hours(way)) return 1000000;
        int key = (((way * 50 + hour) * 21 + owed) * 25 + battery) * 5 + lies;
        Integer known = memo.get(key);
        if (known != null) return known;
        int most = -1;
        for (Deed d : ORDER) {
            most = Math.max(most, by(way, hour, owed, battery, lies, d));
        }
        memo.put(key, most);
        return most;
    }

    private Deed doesOf(int way, int hour, int owed, int battery, int lies) {
        for (Deed d : ORDER) {
            if (by(way, hour, owed, battery, lies, d) == bestOf(way, hour, owed, battery, lies)) return d;
        }
        return null;
    }

    private static int code(Deed d) {
        return d.thing + (d.bell ? 10 : 0);
    }

    int best(int way, int hour, int owed, int battery, int lies) {
        if (!isWay(way)) return UNKNOWN;
        if (!in(hour, 0, hours(way)) || !in(owed, 0, 20) || !in(battery, 0, 24) || !in(lies, 0, 4)) return OUTSIDE;
        return bestOf(way, hour, owed, battery, lies);
    }

    int does(int way, int hour, int owed, int battery, int lies) {
        if (!isWay(way)) return UNKNOWN;
        if (!in(hour, 0, hours(way)) || !in(owed, 0, 20) || !in(battery, 0, 24) || !in(lies, 0, 4)) return OUTSIDE;
        return hour == hours(way) ? NONE : code(doesOf(way, hour, owed, battery, lies));
    }

    int logged(int way, int owed, int battery, int i) {
        if (!isWay(way)) return UNKNOWN;
        if (!in(owed, 0, 20) || !in(battery, 0, 24)) return OUTSIDE;
        List<Integer> row = new ArrayList<>();
        int hour = 0;
        int lies = 4;
        while (hour < hours(way)) {
            Deed d = doesOf(way, hour, owed, battery, lies);
            row.add(code(d));
            owed = after(way, hour, owed, d.thing);
            battery -= cost(d);
            lies -= d.thing == 4 ? 1 : 0;
            hour += made(d.thing);
        }
        if (i == -1) return row.size();
        return in(i, 0, row.size() - 1) ? row.get(i) : NONE;
    }

    int thumb(int way, int rule, int owed, int what) {
        if (!isWay(way)) return UNKNOWN;
        if (!in(rule, 0, 3) || !in(owed, 0, 20) || !in(what, 0, 2)) return OUTSIDE;
        List<Hour> row = new ArrayList<>();
        int owes = owed;
        int hour = 0;
        while (hour < hours(way)) {
            int[] wishes = {};
            if (rule == 0 && hour % 2 == 1) wishes = new int[] {1};
            if (rule == 1 && owes >= 8) wishes = new int[] {3, 2};
            if (rule == 2 && owes >= 4 && legAt(way, hour).ships < 50) wishes = new int[] {3, 2};
            if (rule == 3 && owes >= 1 && hour / 12 % 2 == 1) wishes = new int[] {3, 2};
            int thing = 0;
            for (int i = wishes.length - 1; i >= 0; i--) {
                if (can(way, hour, wishes[i])) thing = wishes[i];
            }
            row.addAll(hoursOf(way, hour, owes, new Deed(thing, false)));
            owes = after(way, hour, owes, thing);
            hour += made(thing);
        }
        return new int[] {safe(row), bestOf(way, 0, owed, 0, 4) - safe(row), owes}[what];
    }

    int worth(int way, int owed, int battery, int more) {
        if (!isWay(way)) return UNKNOWN;
        if (!in(owed, 0, 20) || !in(battery, 0, 24) || !in(more, 0, 24) || battery + more > 24) return OUTSIDE;
        return bestOf(way, 0, owed, battery + more, 4) - bestOf(way, 0, owed, battery, 4);
    }

    int round(int owed, int battery) {
        if (!in(owed, 0, 20) || !in(battery, 0, 24)) return OUTSIDE;
        return bestOf(0, 0, owed, battery, 4) >= bestOf(1, 0, owed, battery, 4) ? 0 : 1;
    }

    int soonest(int way, int owed, int battery, int safe) {
        if (!isWay(way)) return UNKNOWN;
        if (!in(owed, 0, 20) || !in(battery, 0, 24) || !in(safe, 0, 1000000)) return OUTSIDE;
        for (int lies = 0; lies <= 4; lies++) {
            if (bestOf(way, 0, owed, battery, lies) >= safe) return hours(way) + lies;
        }
        return NONE;
    }

    private int twoSafe(int way, int owed, int turn) {
        List<Hour> row = new ArrayList<>();
        int[] owes = {owed, owed};
        Deed watch = new Deed(0, false);
        for (int h = 0; h < hours(way); h++) {
            Leg leg = legAt(way, h);
            int who = (h / turn) % 2;
            if (leg.squall == 1) {
                row.add(new Hour(leg.ships, Math.min(blind(watch, owes[0]), blind(watch, owes[1]))));
                owes[0] = Math.min(20, owes[0] + 2);
                owes[1] = Math.min(20, owes[1] + 2);
            } else {
                row.add(new Hour(leg.ships, blind(watch, owes[who])));
                owes[who] = Math.min(20, owes[who] + 1);
                owes[1 - who] = Math.max(0, owes[1 - who] - 2);
            }
        }
        return safe(row);
    }

    int two(int way, int owed, int turn) {
        if (!isWay(way)) return UNKNOWN;
        if (!in(owed, 0, 20) || !in(turn, 1, 6)) return OUTSIDE;
        return twoSafe(way, owed, turn);
    }

    int share(int way, int owed) {
        if (!isWay(way)) return UNKNOWN;
        if (!in(owed, 0, 20)) return OUTSIDE;
        int of = 6;
        for (int turn = 5; turn >= 1; turn--) {
            if (twoSafe(way, owed, turn) >= twoSafe(way, owed, of)) of = turn;
        }
        return of;
    }

    int up(int g, int c, int owed) {
        if (!in(g, 0, 1000) || !in(c, 0, 10000) || !in(owed, 0, 20)) return OUTSIDE;
        return (1 + 10 * owed) * 1000L <= (long) g * c ? 1 : 0;
    }

    int trust(int c, int owed) {
        if (!in(c, 0, 10000) || !in(owed, 0, 20)) return OUTSIDE;
        if (c == 0) return 1001;
        int g = ((1 + 10 * owed) * 1000 + c - 1) / c;
        return Math.min(g, 1001);
    }

    int draw(int way, int owed, int battery, int seed) {
        if (!isWay(way)) return UNKNOWN;
        if (!in(owed, 0, 20) || !in(battery, 0, 24) || !in(seed, 0, 9999)) return OUTSIDE;
        if (fault() != NONE) return NO;
        sail(way, owed, battery);
        long s = seed;
        for (int i = 0; i < passed.size(); i++) {
            s = (s * 75 + 74) % 65537;
            if (s % 1000 >= passed.get(i).ships) continue;
            s = (s * 75 + 74) % 65537;
            if (s % 1000 < passed.get(i).blind) return i;
        }
        return NONE;
    }

    private static Kept copyOf(List<List<Leg>> ways, int[] give, int[] deep) {
        return new Kept(List.of(new ArrayList<>(ways.get(0)), new ArrayList<>(ways.get(1))), give.clone(), deep.clone());
    }

    int image(int n) {
        if (!in(n, 0, 1)) return OUTSIDE;
        kept[n] = copyOf(ways, give, deep);
        return 1;
    }

    int restore(int n) {
        if (!in(n, 0, 1)) return OUTSIDE;
        if (kept[n] == null) return STATE;
        Kept copy = copyOf(kept[n].ways, kept[n].give, kept[n].deep);
        ways = copy.ways;
        give = copy.give;
        deep = copy.deep;
        memo.clear();
        return 1;
    }

    int told(int what) {
        if (!in(what, 0, 10)) return OUTSIDE;
        return new int[] {pad.length(), ways.get(0).size(), ways.get(1).size(), hours(0), hours(1),
            give[1], give[2], give[3], deep[1], deep[2], deep[3]}[what];
    }
}
