/**
 * One alone in a boat sleeps by pieces, while a ship can come over the edge. The document
 * (shared/DOC.md) tells what each call promises; words in capitals are its terms.
 *
 * A DEED, the word of this file alone, is a THING with or without the BELL: twice the THING,
 * and 1 more with the BELL. So deeds, counted up, stand in the order in which DOES prefers them.
 */
public final class NapVoyage {
    public static final int UNKNOWN = -1, OUTSIDE = -2, STATE = -3, FULL = -4, NO = -5, NONE = -6;

    private static final int WATCH = 0, NAP_1 = 1, NAP_2 = 2, NAP_3 = 3, LIE = 4;
    private static final int DEEDS = 10, WATCH_ALONE = 2 * WATCH, WATCH_WITH_BELL = 2 * WATCH + 1;
    private static final int WAYS = 2, IMAGES = 2, RULES = 4;
    private static final int MOST_LEGS = 8, MOST_HOURS = 48, MOST_HOURS_OF_LEG = 24, MOST_SHIPS = 500;
    private static final int MOST_OWED = 20, OWEDS = MOST_OWED + 1;
    private static final int MOST_BATTERY = 24, MOST_LIES = 4, MOST_TURN = 6;
    private static final int MOST_GIVE = 9, MOST_DEEP = 1000;
    private static final int MOST_SIGNS = 60, FIRST_SIGN = 33, LAST_SIGN = 126;
    private static final int MOST_COST = 10000, MOST_SEED = 9999;
    private static final int THOUSAND = 1000, MILLION = 1000000;

    private final Chart chart;
    private final Chart[] images;
    private final boolean[] kept;
    private final Plan[] plans;
    private final Pad pad;
    private final Boat boat;

    public NapVoyage() {
        chart = new Chart();
        images = new Chart[IMAGES];
        kept = new boolean[IMAGES];
        for (int n = 0; n < IMAGES; n++) {
            images[n] = new Chart();
        }
        plans = new Plan[WAYS];
        Step step = new Step();
        for (int way = 0; way < WAYS; way++) {
            plans[way] = new Plan(chart.ways[way], chart.naps, step);
        }
        pad = new Pad();
        boat = new Boat(chart.naps);
    }

    // ---- 1 ways, naps

    public int leg(int way, int hours, int ships, int squall) {
        Plan plan = planOf(way);
        if (plan == null) {
            return UNKNOWN;
        }
        if (!within(hours, 1, MOST_HOURS_OF_LEG) || !within(ships, 0, MOST_SHIPS) || !within(squall, 0, 1)) {
            return OUTSIDE;
        }
        if (!plan.way.hasRoom(hours)) {
            return FULL;
        }
        plan.way.lengthen(hours, ships, squall);
        plan.forget();
        return plan.way.hours;
    }

    public int cut(int way) {
        Plan plan = planOf(way);
        if (plan == null) {
            return UNKNOWN;
        }
        if (plan.way.legs == 0) {
            return NO;
        }
        plan.way.shorten();
        plan.forget();
        return plan.way.legs;
    }

    public int about(int way, int leg, int what) {
        Way of = wayOf(way);
        if (of == null || !of.hasLeg(leg)) {
            return UNKNOWN;
        }
        switch (what) {
            case 0: return of.legHours[leg];
            case 1: return of.legShips[leg];
            case 2: return of.legSquall[leg];
            case 3: return of.firstHourOf(leg);
            default: return OUTSIDE;
        }
    }

    public int nap(int nap, int what, int v) {
        if (!within(nap, NAP_1, NAP_3) || !within(what, 0, 1)) {
            return OUTSIDE;
        }
        if (!within(v, 0, what == 0 ? MOST_GIVE : MOST_DEEP)) {
            return OUTSIDE;
        }
        int was = what == 0 ? chart.naps.changeGive(nap, v) : chart.naps.changeDeep(nap, v);
        forgetPlans();
        return was;
    }

    public int owed(int way, int hour, int owed, int thing) {
        Way of = wayOf(way);
        if (of == null) {
            return UNKNOWN;
        }
        if (!of.hasHour(hour) || !isOwed(owed) || !isThing(thing)) {
            return OUTSIDE;
        }
        if (!of.lets(hour, thing)) {
            return NO;
        }
        return chart.naps.owedBehind(of, hour, owed, thing);
    }

    public int risk(int way, int hour, int owed, int thing, int bell) {
        Way of = wayOf(way);
        if (of == null) {
            return UNKNOWN;
        }
        if (!of.hasHour(hour) || !isOwed(owed) || !isThing(thing) || !within(bell, 0, 1)) {
            return OUTSIDE;
        }
        int deed = 2 * thing + bell;
        if (deed == WATCH_WITH_BELL || !of.lets(hour, thing)) {
            return NO;
        }
        return of.shipsAt(hour) * chart.naps.blindOf(deed, owed);
    }

    // ---- 2 logs

    public int say(int sign) {
        if (!within(sign, FIRST_SIGN, LAST_SIGN)) {
            return OUTSIDE;
        }
        return pad.write(sign) ? pad.count : FULL;
    }

    public int wipe() {
        int were = pad.count;
        pad.count = 0;
        return were;
    }

    public int fault() {
        return pad.faultPlace();
    }

    public int judge(int way, int owed, int battery, int what) {
        Way of = wayOf(way);
        if (of == null) {
            return UNKNOWN;
        }
        if (!isOwed(owed) || !isBattery(battery) || !within(what, 0, 6)) {
            return OUTSIDE;
        }
        if (pad.faultPlace() != NONE) {
            return NO;
        }
        boat.setOut(of, owed, battery);
        int refused = boat.sailBy(pad);
        switch (what) {
            case 0: return refused;
            case 1: return boat.track.times;
            case 2: return boat.owes;
            case 3: return boat.track.safe();
            case 4: return boat.track.riskiest();
            case 5: return boat.hour;
            default: return boat.charge;
        }
    }

    // ---- 3 the best

    public int best(int way, int hour, int owed, int battery, int lies) {
        Plan plan = planOf(way);
        if (plan == null) {
            return UNKNOWN;
        }
        if (!plan.reaches(hour, lies) || !isOwed(owed) || !isBattery(battery)) {
            return OUTSIDE;
        }
        return plan.bestFrom(hour, owed, battery, lies);
    }

    public int does(int way, int hour, int owed, int battery, int lies) {
        Plan plan = planOf(way);
        if (plan == null) {
            return UNKNOWN;
        }
        if (!plan.reaches(hour, lies) || !isOwed(owed) || !isBattery(battery)) {
            return OUTSIDE;
        }
        return codeOf(plan.firstDeed(hour, owed, battery, lies));
    }

    public int logged(int way, int owed, int battery, int i) {
        Plan plan = planOf(way);
        if (plan == null) {
            return UNKNOWN;
        }
        if (!isOwed(owed) || !isBattery(battery)) {
            return OUTSIDE;
        }
        return plan.follow(owed, battery, i);
    }

    public int thumb(int way, int rule, int owed, int what) {
        Plan plan = planOf(way);
        if (plan == null) {
            return UNKNOWN;
        }
        if (!within(rule, 0, RULES - 1) || !isOwed(owed) || !within(what, 0, 2)) {
            return OUTSIDE;
        }
        boat.setOut(plan.way, owed, 0);
        boat.sailByThumb(rule);
        switch (what) {
            case 0: return boat.track.safe();
            case 1: return plan.bestFrom(0, owed, 0, MOST_LIES) - boat.track.safe();
            default: return boat.owes;
        }
    }

    public int worth(int way, int owed, int battery, int more) {
        Plan plan = planOf(way);
        if (plan == null) {
            return UNKNOWN;
        }
        if (!isOwed(owed) || !isBattery(battery) || !within(more, 0, MOST_BATTERY - battery)) {
            return OUTSIDE;
        }
        return plan.bestFrom(0, owed, battery + more, MOST_LIES) - plan.bestFrom(0, owed, battery, MOST_LIES);
    }

    public int round(int owed, int battery) {
        if (!isOwed(owed) || !isBattery(battery)) {
            return OUTSIDE;
        }
        int one = plans[0].bestFrom(0, owed, battery, MOST_LIES);
        int other = plans[1].bestFrom(0, owed, battery, MOST_LIES);
        return other > one ? 1 : 0;
    }

    public int soonest(int way, int owed, int battery, int safe) {
        Plan plan = planOf(way);
        if (plan == null) {
            return UNKNOWN;
        }
        if (!isOwed(owed) || !isBattery(battery) || !within(safe, 0, MILLION)) {
            return OUTSIDE;
        }
        for (int lies = 0; lies <= MOST_LIES; lies++) {
            if (plan.bestFrom(0, owed, battery, lies) >= safe) {
                return plan.way.hours + lies;
            }
        }
        return NONE;
    }

    // ---- 4 two, signs, draws

    public int two(int way, int owed, int turn) {
        Way of = wayOf(way);
        if (of == null) {
            return UNKNOWN;
        }
        if (!isOwed(owed) || !within(turn, 1, MOST_TURN)) {
            return OUTSIDE;
        }
        return boat.safeByTurns(of, owed, turn);
    }

    public int share(int way, int owed) {
        Way of = wayOf(way);
        if (of == null) {
            return UNKNOWN;
        }
        if (!isOwed(owed)) {
            return OUTSIDE;
        }
        int fairest = 1;
        int most = boat.safeByTurns(of, owed, 1);
        for (int turn = 2; turn <= MOST_TURN; turn++) {
            int safe = boat.safeByTurns(of, owed, turn);
            if (safe > most) {
                most = safe;
                fairest = turn;
            }
        }
        return fairest;
    }

    public int up(int g, int c, int owed) {
        if (!within(g, 0, THOUSAND) || !within(c, 0, MOST_COST) || !isOwed(owed)) {
            return OUTSIDE;
        }
        return getsUp(g, c, owed) ? 1 : 0;
    }

    public int trust(int c, int owed) {
        if (!within(c, 0, MOST_COST) || !isOwed(owed)) {
            return OUTSIDE;
        }
        for (int g = 0; g <= THOUSAND; g++) {
            if (getsUp(g, c, owed)) {
                return g;
            }
        }
        return THOUSAND + 1;
    }

    public int draw(int way, int owed, int battery, int seed) {
        Way of = wayOf(way);
        if (of == null) {
            return UNKNOWN;
        }
        if (!isOwed(owed) || !isBattery(battery) || !within(seed, 0, MOST_SEED)) {
            return OUTSIDE;
        }
        if (pad.faultPlace() != NONE) {
            return NO;
        }
        boat.setOut(of, owed, battery);
        boat.sailBy(pad);
        return boat.track.struckBy(seed);
    }

    public int image(int n) {
        if (!within(n, 0, IMAGES - 1)) {
            return OUTSIDE;
        }
        images[n].copy(chart);
        kept[n] = true;
        return 1;
    }

    public int restore(int n) {
        if (!within(n, 0, IMAGES - 1)) {
            return OUTSIDE;
        }
        if (!kept[n]) {
            return STATE;
        }
        chart.copy(images[n]);
        forgetPlans();
        return 1;
    }

    public int told(int what) {
        if (!within(what, 0, 10)) {
            return OUTSIDE;
        }
        if (what == 0) {
            return pad.count;
        }
        if (what <= 2) {
            return chart.ways[what - 1].legs;
        }
        if (what <= 4) {
            return chart.ways[what - 3].hours;
        }
        return what <= 7 ? chart.naps.give[what - 4] : chart.naps.deep[what - 7];
    }

    // ---- what the calls share

    private static boolean within(int v, int least, int most) {
        return v >= least && v <= most;
    }

    private static boolean isOwed(int owed) {
        return within(owed, 0, MOST_OWED);
    }

    private static boolean isBattery(int battery) {
        return within(battery, 0, MOST_BATTERY);
    }

    private static boolean isThing(int thing) {
        return within(thing, WATCH, LIE);
    }

    private Way wayOf(int way) {
        return within(way, 0, WAYS - 1) ? chart.ways[way] : null;
    }

    private Plan planOf(int way) {
        return within(way, 0, WAYS - 1) ? plans[way] : null;
    }

    private void forgetPlans() {
        for (int way = 0; way < WAYS; way++) {
            plans[way].forget();
        }
    }

    // Both costs times 1000, so that nothing is cut.
    private static boolean getsUp(int g, int c, int owed) {
        return THOUSAND * (1 + 10 * owed) <= g * c;
    }

    private static boolean isNight(int hour) {
        return hour % 24 >= 12;
    }

    private static int hoursOf(int thing) {
        if (thing == LIE) {
            return 0;
        }
        return thing == NAP_3 ? 2 : 1;
    }

    private static int batteryOf(int deed) {
        if (deed % 2 == 0) {
            return 0;
        }
        return deed / 2 == NAP_3 ? 2 : 1;
    }

    private static int codeOf(int deed) {
        return deed < 0 ? NONE : deed / 2 + 10 * (deed % 2);
    }

    private static int lessened(int safe, int risk) {
        return (int) ((long) safe * (MILLION - risk) / MILLION);
    }

    /** A row of LEGS; SHIPS and SQUALLS are spread over the HOURS too, as that is how they are asked for. */
    private static final class Way {
        private int legs;
        private int hours;
        private final int[] legHours = new int[MOST_LEGS];
        private final int[] legShips = new int[MOST_LEGS];
        private final int[] legSquall = new int[MOST_LEGS];
        private final int[] hourShips = new int[MOST_HOURS];
        private final int[] hourSquall = new int[MOST_HOURS];

        private boolean hasRoom(int more) {
            return legs < MOST_LEGS && hours + more <= MOST_HOURS;
        }

        private boolean hasLeg(int leg) {
            return within(leg, 0, legs - 1);
        }

        private boolean hasHour(int hour) {
            return hour >= 0 && hour < hours;
        }

        private void lengthen(int more, int ships, int squall) {
            if (!hasRoom(more)) {
                return;
            }
            legHours[legs] = more;
            legShips[legs] = ships;
            legSquall[legs] = squall;
            legs++;
            for (int i = 0; i < more; i++) {
                hourShips[hours] = ships;
                hourSquall[hours] = squall;
                hours++;
            }
        }

        private void shorten() {
            if (legs > 0) {
                legs--;
                hours -= legHours[legs];
            }
        }

        private int firstHourOf(int leg) {
            int first = 0;
            for (int i = 0; i < leg && i < legs; i++) {
                first += legHours[i];
            }
            return first;
        }

        private int shipsAt(int hour) {
            return hour >= 0 && hour < hours ? hourShips[hour] : 0;
        }

        private boolean squallAt(int hour) {
            return hour >= 0 && hour < hours && hourSquall[hour] == 1;
        }

        private boolean lets(int hour, int thing) {
            if (!hasHour(hour)) {
                return false;
            }
            if (thing == WATCH) {
                return true;
            }
            if (squallAt(hour)) {
                return false;
            }
            return thing != NAP_3 || hasHour(hour + 1) && !squallAt(hour + 1);
        }

        private void copy(Way from) {
            legs = from.legs;
            hours = from.hours;
            System.arraycopy(from.legHours, 0, legHours, 0, MOST_LEGS);
            System.arraycopy(from.legShips, 0, legShips, 0, MOST_LEGS);
            System.arraycopy(from.legSquall, 0, legSquall, 0, MOST_LEGS);
            System.arraycopy(from.hourShips, 0, hourShips, 0, MOST_HOURS);
            System.arraycopy(from.hourSquall, 0, hourSquall, 0, MOST_HOURS);
        }
    }

    /** What NAPS give and how deep they are, and what follows of it for OWED and BLIND. */
    private static final class Naps {
        private final int[] give = {0, 1, 2, 6};
        private final int[] deep = {0, 200, 500, 800};

        private int changeGive(int nap, int v) {
            if (!within(nap, NAP_1, NAP_3)) {
                return OUTSIDE;
            }
            int was = give[nap];
            give[nap] = v;
            return was;
        }

        private int changeDeep(int nap, int v) {
            if (!within(nap, NAP_1, NAP_3)) {
                return OUTSIDE;
            }
            int was = deep[nap];
            deep[nap] = v;
            return was;
        }

        private int owedBehind(Way way, int hour, int owed, int thing) {
            if (thing == WATCH) {
                return Math.min(MOST_OWED, owed + (way.squallAt(hour) ? 2 : 1));
            }
            if (!within(thing, NAP_1, NAP_3)) {
                return Math.max(0, owed - 1);
            }
            return Math.max(0, owed - give[thing] - (isNight(hour) ? 1 : 0));
        }

        private int blindOf(int deed, int owed) {
            int alone = blindAlone(deed / 2, owed);
            if (deed % 2 == 0) {
                return alone;
            }
            int heard = Math.max(0, 600 - 40 * owed);
            return alone * (THOUSAND - heard) / THOUSAND;
        }

        private int blindAlone(int thing, int owed) {
            int over = Math.max(0, owed - 10);
            if (thing == WATCH) {
                return 20 + 10 * over;
            }
            if (!within(thing, NAP_1, NAP_3)) {
                return 300;
            }
            return Math.min(THOUSAND, deep[thing] + 20 * over);
        }

        private void copy(Naps from) {
            System.arraycopy(from.give, 0, give, 0, give.length);
            System.arraycopy(from.deep, 0, deep, 0, deep.length);
        }
    }

    /** What an IMAGE keeps. */
    private static final class Chart {
        private final Way[] ways;
        private final Naps naps;

        private Chart() {
            ways = new Way[WAYS];
            for (int way = 0; way < WAYS; way++) {
                ways[way] = new Way();
            }
            naps = new Naps();
        }

        private void copy(Chart from) {
            for (int way = 0; way < WAYS; way++) {
                ways[way].copy(from.ways[way]);
            }
            naps.copy(from.naps);
        }
    }

    /** The PAD, on which a LOG is written. */
    private static final class Pad {
        // What has to come behind the signs read so far.
        private static final int A_THING = 0, A_THING_BELLED = 1, A_DOT = 2, MISFIT = 3;

        private int count;
        private final int[] signs = new int[MOST_SIGNS];

        private boolean write(int sign) {
            if (count >= MOST_SIGNS) {
                return false;
            }
            signs[count] = sign;
            count++;
            return true;
        }

        private int faultPlace() {
            int wanted = A_THING;
            for (int i = 0; i < count; i++) {
                wanted = wantedBehind(wanted, signs[i]);
                if (wanted == MISFIT) {
                    return i;
                }
            }
            return wanted == A_THING ? NONE : count;
        }

        private static int wantedBehind(int wanted, int sign) {
            if (wanted == A_DOT) {
                return sign == '.' ? A_THING : MISFIT;
            }
            if (sign == '!') {
                return wanted == A_THING ? A_THING_BELLED : MISFIT;
            }
            int thing = thingOf(sign);
            if (thing == NONE || thing == WATCH && wanted == A_THING_BELLED) {
                return MISFIT;
            }
            return thing == NAP_3 ? A_DOT : A_THING;
        }

        private static int thingOf(int sign) {
            switch (sign) {
                case 'w': return WATCH;
                case '1': return NAP_1;
                case '2': return NAP_2;
                case '3': return NAP_3;
                case 'l': return LIE;
                default: return NONE;
            }
        }
    }

    /** The HOURS that passed, each with its SHIPS and how BLIND one was. */
    private static final class Track {
        private int times;
        private final int[] ships = new int[MOST_SIGNS];
        private final int[] blind = new int[MOST_SIGNS];

        private void pass(int shipsThen, int blindThen) {
            if (times < MOST_SIGNS) {
                ships[times] = shipsThen;
                blind[times] = blindThen;
                times++;
            }
        }

        private int safe() {
            int safe = MILLION;
            for (int i = times - 1; i >= 0; i--) {
                safe = lessened(safe, ships[i] * blind[i]);
            }
            return safe;
        }

        private int riskiest() {
            int at = NONE;
            int most = -1;
            for (int i = 0; i < times; i++) {
                if (ships[i] * blind[i] > most) {
                    most = ships[i] * blind[i];
                    at = i;
                }
            }
            return at;
        }

        private int struckBy(int seed) {
            int drawn = seed;
            for (int i = 0; i < times; i++) {
                drawn = drawBehind(drawn);
                if (drawn % THOUSAND < ships[i]) {
                    drawn = drawBehind(drawn);
                    if (drawn % THOUSAND < blind[i]) {
                        return i;
                    }
                }
            }
            return NONE;
        }

        private static int drawBehind(int drawn) {
            return (drawn * 75 + 74) % 65537;
        }
    }

    /** A boat under way: by a LOG, by a THUMB, or with TWO aboard. */
    private static final class Boat {
        private final Naps naps;
        private final Track track;
        private Way way;
        private int hour;
        private int owes;
        private int charge;

        private Boat(Naps naps) {
            this.naps = naps;
            track = new Track();
        }

        private void setOut(Way on, int owed, int battery) {
            way = on;
            hour = 0;
            owes = owed;
            charge = battery;
            track.times = 0;
        }

        /** The first THING that can not be, or NONE. Of a LOG without FAULT alone. */
        private int sailBy(Pad pad) {
            int things = 0;
            int bell = 0;
            for (int i = 0; i < pad.count; i++) {
                int thing = Pad.thingOf(pad.signs[i]);
                if (thing != NONE) {
                    if (!doDeed(2 * thing + bell)) {
                        return things;
                    }
                    things++;
                }
                bell = pad.signs[i] == '!' ? 1 : 0;
            }
            return NONE;
        }

        private void sailByThumb(int rule) {
            if (way == null) {
                return;
            }
            // Each THING makes way: as many as there are HOURS are enough.
            for (int i = 0; i < MOST_HOURS && hour < way.hours; i++) {
                doDeed(2 * thingByThumb(rule));
            }
        }

        private int thingByThumb(int rule) {
            if (rule == 0) {
                return hour % 2 == 1 && way.lets(hour, NAP_1) ? NAP_1 : WATCH;
            }
            if (!saidByThumb(rule)) {
                return WATCH;
            }
            if (way.lets(hour, NAP_3)) {
                return NAP_3;
            }
            return way.lets(hour, NAP_2) ? NAP_2 : WATCH;
        }

        private boolean saidByThumb(int rule) {
            switch (rule) {
                case 1: return owes >= 8;
                case 2: return owes >= 4 && way.shipsAt(hour) < 50;
                default: return owes >= 1 && isNight(hour);
            }
        }

        private boolean doDeed(int deed) {
            int thing = deed / 2;
            if (way == null || !way.lets(hour, thing) || charge < batteryOf(deed)) {
                return false;
            }
            int blind = naps.blindOf(deed, owes);
            track.pass(way.shipsAt(hour), blind);
            if (thing == NAP_3) {
                track.pass(way.shipsAt(hour + 1), blind);
            }
            owes = naps.owedBehind(way, hour, owes, thing);
            charge -= batteryOf(deed);
            hour += hoursOf(thing);
            return true;
        }

        private int safeByTurns(Way on, int owed, int turn) {
            int one = owed;
            int other = owed;
            track.times = 0;
            for (int h = 0; h < on.hours; h++) {
                boolean both = on.squallAt(h);
                boolean oneWatches = turn < 1 || h / turn % 2 == 0;
                int least = both ? Math.min(one, other) : (oneWatches ? one : other);
                track.pass(on.shipsAt(h), naps.blindOf(WATCH_ALONE, least));
                one = both || oneWatches ? naps.owedBehind(on, h, one, WATCH) : Math.max(0, one - 2);
                other = both || !oneWatches ? naps.owedBehind(on, h, other, WATCH) : Math.max(0, other - 2);
            }
            return track.safe();
        }
    }

    /** The deeds of one HOUR made ready for a plan: where they lead and how safely, by OWED. */
    private static final class Step {
        private final int[] next = new int[DEEDS * OWEDS];
        // 1000000 less RISK: of the HOUR itself, and of the second one of NAP 3.
        private final int[] passed = new int[DEEDS * OWEDS];
        private final int[] passedSecond = new int[DEEDS * OWEDS];

        private void ready(Way way, Naps naps, int hour) {
            for (int owed = 0; owed < OWEDS; owed++) {
                readyFor(way, naps, hour, owed);
            }
        }

        private void readyFor(Way way, Naps naps, int hour, int owed) {
            for (int deed = 0; deed < DEEDS && isOwed(owed); deed++) {
                int at = deed * OWEDS + owed;
                int thing = deed / 2;
                int blind = naps.blindOf(deed, owed);
                next[at] = (hour + hoursOf(thing)) * OWEDS + naps.owedBehind(way, hour, owed, thing);
                passed[at] = MILLION - way.shipsAt(hour) * blind;
                passedSecond[at] = MILLION - way.shipsAt(hour + 1) * blind;
            }
        }

        private int safeBy(int deed, int owed, Plane rest) {
            int at = deed * OWEDS + owed;
            if (at < 0 || at >= next.length) {
                return 0;
            }
            long safe = rest.at(next[at]);
            if (deed / 2 == NAP_3) {
                safe = safe * passedSecond[at] / MILLION;
            }
            return (int) (safe * passed[at] / MILLION);
        }
    }

    /** BEST by HOUR and OWED, so much BATTERY and so many LIES being left; filled from an HOUR on alone. */
    private static final class Plane {
        private static final int NOT_YET = MOST_HOURS + 1;

        private int from = NOT_YET;
        private final int[] safe = new int[(MOST_HOURS + 1) * OWEDS];

        private int at(int place) {
            return place >= 0 && place < safe.length ? safe[place] : 0;
        }

        private void put(int place, int v) {
            if (place >= 0 && place < safe.length) {
                safe[place] = v;
            }
        }
    }

    /**
     * The rule by which one arrives most surely on a WAY. Planes are made when they are first asked
     * for and filled from the end back as far as asked; they stand until the WAY or the NAPS change.
     */
    private static final class Plan {
        private final Way way;
        private final Naps naps;
        private final Step step;
        private final Plane[] planes;

        private Plan(Way way, Naps naps, Step step) {
            this.way = way;
            this.naps = naps;
            this.step = step;
            planes = new Plane[(MOST_BATTERY + 1) * (MOST_LIES + 1)];
        }

        private void forget() {
            for (int i = 0; i < planes.length; i++) {
                if (planes[i] != null) {
                    planes[i].from = Plane.NOT_YET;
                }
            }
        }

        private boolean reaches(int hour, int lies) {
            return within(hour, 0, way.hours) && within(lies, 0, MOST_LIES);
        }

        private int bestFrom(int hour, int owed, int battery, int lies) {
            fill(hour, battery, lies);
            Plane plane = planeOf(hour, battery, lies);
            return plane == null ? 0 : plane.at(hour * OWEDS + owed);
        }

        private int firstDeed(int hour, int owed, int battery, int lies) {
            fill(hour, battery, lies);
            return deedThere(hour, owed, battery, lies);
        }

        /** The i-th THING of LOGGED as DOES tells it, or NONE; how many there are, if i is -1. */
        private int follow(int owed, int battery, int i) {
            int hour = 0;
            int owes = owed;
            int charge = battery;
            int lies = MOST_LIES;
            fill(hour, charge, lies);
            for (int things = 0; things <= MOST_HOURS + MOST_LIES; things++) {
                int deed = deedThere(hour, owes, charge, lies);
                if (deed == NONE) {
                    return i == -1 ? things : NONE;
                }
                if (things == i) {
                    return codeOf(deed);
                }
                owes = naps.owedBehind(way, hour, owes, deed / 2);
                charge -= batteryOf(deed);
                lies -= deed / 2 == LIE ? 1 : 0;
                hour += hoursOf(deed / 2);
            }
            return NONE;
        }

        /** All planes that a question can lead to; those with less are first, as what is left never grows. */
        private void fill(int hour, int battery, int lies) {
            Plane asked = planeOf(hour, battery, lies);
            if (asked == null || asked.from <= hour) {
                return;
            }
            for (int h = way.hours; h >= hour; h--) {
                step.ready(way, naps, h);
                for (int l = 0; l <= lies; l++) {
                    int most = spendable(h, battery, l);
                    for (int b = 0; b <= most; b++) {
                        fillHour(h, b, l);
                    }
                }
            }
        }

        private void fillHour(int hour, int battery, int lies) {
            Plane plane = planeOf(hour, battery, lies);
            if (plane == null || plane.from <= hour) {
                return;
            }
            plane.from = hour;
            for (int owed = 0; owed < OWEDS; owed++) {
                plane.put(hour * OWEDS + owed, hour == way.hours ? MILLION : 0);
            }
            for (int deed = 0; deed < DEEDS; deed++) {
                Plane rest = planeBehind(hour, battery, lies, deed);
                if (rest != null) {
                    weigh(plane, hour, deed, rest);
                }
            }
        }

        private void weigh(Plane plane, int hour, int deed, Plane rest) {
            for (int owed = 0; owed < OWEDS; owed++) {
                int safe = step.safeBy(deed, owed, rest);
                if (safe > plane.at(hour * OWEDS + owed)) {
                    plane.put(hour * OWEDS + owed, safe);
                }
            }
        }

        private int deedThere(int hour, int owed, int battery, int lies) {
            Plane plane = planeOf(hour, battery, lies);
            if (plane == null) {
                return NONE;
            }
            step.readyFor(way, naps, hour, owed);
            for (int deed = 0; deed < DEEDS; deed++) {
                Plane rest = planeBehind(hour, battery, lies, deed);
                if (rest != null && step.safeBy(deed, owed, rest) == plane.at(hour * OWEDS + owed)) {
                    return deed;
                }
            }
            return NONE;
        }

        /** The plane on which one is behind a deed; null, if the deed can not be. */
        private Plane planeBehind(int hour, int battery, int lies, int deed) {
            int thing = deed / 2;
            if (deed == WATCH_WITH_BELL || !way.lets(hour, thing)) {
                return null;
            }
            return planeOf(hour + hoursOf(thing), battery - batteryOf(deed), thing == LIE ? lies - 1 : lies);
        }

        private Plane planeOf(int hour, int battery, int lies) {
            int charge = spendable(hour, battery, lies);
            if (!within(charge, 0, MOST_BATTERY) || !within(lies, 0, MOST_LIES)) {
                return null;
            }
            int place = charge * (MOST_LIES + 1) + lies;
            if (planes[place] == null) {
                planes[place] = new Plane();
            }
            return planes[place];
        }

        // An HOUR takes 1 of the BATTERY at most: what is above that changes nothing, and needs no plane.
        private int spendable(int hour, int battery, int lies) {
            int most = way.hours - hour + lies;
            return battery < most ? battery : most;
        }
    }
}
