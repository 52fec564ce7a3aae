/** Any call of GuardNets by its name. */
final class Calls {
    static final String[] NAMES = {
        "step", "trace", "about", "write", "erase", "make", "clear", "knot", "part", "reaches",
        "ways", "wayAt", "least", "leastWay", "many", "size", "chance", "weight", "best", "limbs", "limb",
        "guard", "holds", "leastGuards", "front", "frontAt", "patrol", "catches", "game", "insider", "worst",
        "may", "ask", "event", "rest", "soon", "reached", "walk", "home", "stands", "begins", "end", "orderAt",
        "image", "differ", "from", "count", "digest"};

    private Calls() {
    }

    static int arguments(String name) {
        switch (name) {
            case "erase": case "clear": case "patrol": case "rest": case "soon": case "digest":
                return 0;
            case "write": case "make": case "ways": case "many": case "size": case "chance": case "limbs":
            case "leastGuards": case "front": case "game": case "insider": case "home": case "image":
            case "differ": case "from": case "count":
                return 1;
            case "trace": case "frontAt": case "catches": case "worst": case "may": case "ask": case "orderAt":
                return 3;
            case "step":
                return 4;
            default:
                return 2;
        }
    }

    static boolean putsFraction(String name) {
        return name.equals("chance") || name.equals("weight") || name.equals("best") || name.equals("frontAt") || name.equals("game");
    }

    static long call(GuardNets x, String name, int... a) {
        switch (name) {
            case "step": return x.step(a[0], a[1], a[2], a[3]);
            case "trace": return x.trace(a[0], a[1], a[2]);
            case "about": return x.about(a[0], a[1]);
            case "write": return x.write(a[0]);
            case "erase": return x.erase();
            case "make": return x.make(a[0]);
            case "clear": return x.clear();
            case "knot": return x.knot(a[0], a[1]);
            case "part": return x.part(a[0], a[1]);
            case "reaches": return x.reaches(a[0], a[1]);
            case "ways": return x.ways(a[0]);
            case "wayAt": return x.wayAt(a[0], a[1]);
            case "least": return x.least(a[0], a[1]);
            case "leastWay": return x.leastWay(a[0], a[1]);
            case "many": return x.many(a[0]);
            case "size": return x.size(a[0]);
            case "chance": return x.chance(a[0]);
            case "weight": return x.weight(a[0], a[1]);
            case "best": return x.best(a[0], a[1]);
            case "limbs": return x.limbs(a[0]);
            case "limb": return x.limb(a[0], a[1]);
            case "guard": return x.guard(a[0], a[1]);
            case "holds": return x.holds(a[0], a[1]);
            case "leastGuards": return x.leastGuards(a[0]);
            case "front": return x.front(a[0]);
            case "frontAt": return x.frontAt(a[0], a[1], a[2]);
            default: return callMore(x, name, a);
        }
    }

    private static long callMore(GuardNets x, String name, int[] a) {
        switch (name) {
            case "patrol": return x.patrol();
            case "catches": return x.catches(a[0], a[1], a[2]);
            case "game": return x.game(a[0]);
            case "insider": return x.insider(a[0]);
            case "worst": return x.worst(a[0], a[1], a[2]);
            case "may": return x.may(a[0], a[1], a[2]);
            case "ask": return x.ask(a[0], a[1], a[2]);
            case "event": return x.event(a[0], a[1]);
            case "rest": return x.rest();
            case "soon": return x.soon();
            case "reached": return x.reached(a[0], a[1]);
            case "walk": return x.walk(a[0], a[1]);
            case "home": return x.home(a[0]);
            case "stands": return x.stands(a[0], a[1]);
            case "begins": return x.begins(a[0], a[1]);
            case "end": return x.end(a[0], a[1]);
            case "orderAt": return x.orderAt(a[0], a[1], a[2]);
            case "image": return x.image(a[0]);
            case "differ": return x.differ(a[0]);
            case "from": return x.from(a[0]);
            case "count": return x.count(a[0]);
            case "digest": return x.digest();
            default: throw new IllegalStateException(name);
        }
    }
}
