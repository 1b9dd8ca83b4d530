import java.util.ArrayList;
import java.util.List;

/**
 * The document's words as a slow second program, written apart from the class: objects, lists and
 * exceptions instead of rows and codes. ModelTest compares the two. Arguments are taken to be right.
 */
final class Model {
    /** A request, or a construction, that fails. */
    static final class Failed extends RuntimeException {
        private static final long serialVersionUID = 1;
        final int kind;
        final int detail;
        final List<Integer> chain;

        Failed(int kind, int detail, List<Part> constructing) {
            this.kind = kind;
            this.detail = detail;
            this.chain = new ArrayList<>();
            for (Part part : constructing) {
                chain.add(part.number);
            }
        }
    }

    static final class Part {
        int number;
        int[] properties;
        List<int[]> dependencies = new ArrayList<>();
    }

    static final class Thing {
        int number;
        Part part;
        int scopeThen;
        List<Thing> home;
        boolean alive = true;
        List<Integer> injected = new ArrayList<>();
    }

    final List<Part> parts = new ArrayList<>();
    final boolean[] profiles = new boolean[8];
    final List<Thing> things = new ArrayList<>();
    final List<Integer> events = new ArrayList<>();
    final List<List<Thing>> scopes = new ArrayList<>();
    private final List<Part> constructing = new ArrayList<>();
    Failed failure = null;

    // In the world of problem(): SCOPED counts as PROTOTYPE, LIMIT and BROKEN do not exist.
    private boolean imagined = false;
    private int steps = 0;

    void add(int types, int scope) {
        Part part = new Part();
        part.number = parts.size();
        part.properties = new int[] {types, scope, -1, 0, 0, -1, -1};
        parts.add(part);
    }

    boolean isActive(Part part) {
        return part.properties[5] == -1 || profiles[part.properties[5]];
    }

    List<Part> candidates(int type, int qualifier) {
        List<Part> found = new ArrayList<>();
        for (Part part : parts) {
            boolean provides = part.properties[0] / (1 << type) % 2 == 1;
            if (isActive(part) && provides && (qualifier == -1 || part.properties[2] == qualifier)) {
                found.add(part);
            }
        }
        return found;
    }

    Part chosen(int type, int qualifier) {
        List<Part> found = candidates(type, qualifier);
        if (found.size() == 1) {
            return found.get(0);
        }
        List<Part> primary = new ArrayList<>();
        for (Part part : found) {
            if (part.properties[3] == 1) {
                primary.add(part);
            }
        }
        return primary.size() == 1 ? primary.get(0) : null;
    }

    static int mask(List<Part> parts) {
        int mask = 0;
        for (Part part : parts) {
            mask += 1 << part.number;
        }
        return mask;
    }

    int needs(Part part) {
        List<Part> reached = new ArrayList<>();
        addNeeds(part, reached);
        for (int i = 0; i < reached.size(); i++) {
            addNeeds(reached.get(i), reached);
        }
        return mask(reached);
    }

    private void addNeeds(Part part, List<Part> reached) {
        for (int[] d : part.dependencies) {
            List<Part> needed = new ArrayList<>();
            if (d[2] == 2) {
                needed = candidates(d[0], d[1]);
            } else if (d[2] != 3 && chosen(d[0], d[1]) != null) {
                needed.add(chosen(d[0], d[1]));
            }
            for (Part one : needed) {
                if (!reached.contains(one)) {
                    reached.add(one);
                }
            }
        }
    }

    /** The kind of the problem; -1 if trying it out takes too many steps. */
    int problem(Part part) {
        Model world = new Model();
        world.imagined = true;
        world.parts.addAll(parts);
        System.arraycopy(profiles, 0, world.profiles, 0, 8);
        try {
            world.construct(part);
            return 0;
        } catch (Failed e) {
            return e.kind;
        } catch (UnsupportedOperationException e) {
            return -1;
        }
    }

    int resolve(int type, int qualifier) {
        int before = things.size();
        try {
            return request(type, qualifier).number;
        } catch (Failed e) {
            throw afterFailure(e, before);
        }
    }

    int start() {
        int before = things.size();
        try {
            for (Part part : parts) {
                if (isActive(part) && part.properties[1] == 0 && part.properties[4] == 0) {
                    obtain(part);
                }
            }
        } catch (Failed e) {
            throw afterFailure(e, before);
        }
        return things.size() - before;
    }

    private Failed afterFailure(Failed e, int before) {
        failure = e;
        constructing.clear();
        for (int i = things.size() - 1; i >= before; i--) {
            if (things.get(i).part.properties[1] == 1) {
                destroy(things.get(i));
            }
        }
        return e;
    }

    private void destroy(Thing thing) {
        thing.alive = false;
        events.add(2 * thing.number + 1);
    }

    private Thing request(int type, int qualifier) {
        if (candidates(type, qualifier).isEmpty()) {
            throw new Failed(1, type, constructing);
        }
        Part choice = chosen(type, qualifier);
        if (choice == null) {
            throw new Failed(2, type, constructing);
        }
        return obtain(choice);
    }

    private Thing obtain(Part part) {
        int scope = part.properties[1];
        if (scope == 2 && !imagined) {
            if (scopes.isEmpty()) {
                throw new Failed(4, part.number, constructing);
            }
            for (Thing thing : scopes.get(scopes.size() - 1)) {
                if (thing.part == part) {
                    return thing;
                }
            }
        }
        if (scope == 0) {
            for (Thing thing : things) {
                if (thing.part == part && thing.alive && thing.scopeThen == 0) {
                    return thing;
                }
            }
        }
        return construct(part);
    }

    private Thing construct(Part part) {
        steps++;
        if (imagined && steps > 20000) {
            throw new UnsupportedOperationException("too many steps");
        }
        if (constructing.contains(part)) {
            throw new Failed(3, part.number, constructing);
        }
        constructing.add(part);
        Thing thing = new Thing();
        for (int[] d : part.dependencies) {
            thing.injected.add(injectedFor(d));
        }
        if (!imagined && things.size() >= 300) {
            throw new Failed(5, part.number, constructing);
        }
        if (!imagined && part.properties[6] != -1 && completed(part) >= part.properties[6]) {
            throw new Failed(6, part.number, constructing);
        }
        constructing.remove(constructing.size() - 1);
        thing.number = things.size();
        thing.part = part;
        thing.scopeThen = part.properties[1];
        things.add(thing);
        if (thing.scopeThen == 2 && !imagined) {
            scopes.get(scopes.size() - 1).add(thing);
        }
        events.add(2 * thing.number);
        return thing;
    }

    private int completed(Part part) {
        int completed = 0;
        for (Thing thing : things) {
            completed += thing.part == part ? 1 : 0;
        }
        return completed;
    }

    private int injectedFor(int[] d) {
        if (d[2] == 3 || d[2] == 1 && candidates(d[0], d[1]).isEmpty()) {
            return -1;
        }
        if (d[2] != 2) {
            return request(d[0], d[1]).number;
        }
        int obtained = 0;
        for (Part part : candidates(d[0], d[1])) {
            obtain(part);
            obtained++;
        }
        return obtained;
    }

    int end() {
        List<Thing> innermost = scopes.remove(scopes.size() - 1);
        for (int i = innermost.size() - 1; i >= 0; i--) {
            destroy(innermost.get(i));
        }
        return innermost.size();
    }

    int close() {
        int destroyed = 0;
        while (!scopes.isEmpty()) {
            destroyed += end();
        }
        for (int i = things.size() - 1; i >= 0; i--) {
            if (things.get(i).alive && things.get(i).scopeThen == 0) {
                destroy(things.get(i));
                destroyed++;
            }
        }
        return destroyed;
    }
}
