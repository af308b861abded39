/**
 * All that the calls show of an object, as a text. The object is used up by that: drafts are made what they are
 * drafts of, packs are opened, units are built. Two objects in the same state show the same.
 */
final class Shown {
    /** A test has the rest of the 512 calls to bring an object into its state. */
    private static final int MOST_CALLS = 300;
    /** Comparing with all that is there would take too many calls; the tests' states need no more than these. */
    private static final int MOST_COMPARED = 6;
    private static final int REFUSED = -1000;
    private static final int PLAIN = ModuleLoft.PLAIN;

    private interface Asking {
        int ask();
    }

    private final ModuleLoft x;
    private final StringBuilder text = new StringBuilder();
    private int calls = 0;

    private Shown(ModuleLoft x) {
        this.x = x;
    }

    static String by(ModuleLoft x) {
        Shown shown = new Shown(x);
        shown.showUnits();
        shown.showTypes();
        int structures = shown.showStructures();
        int signatures = shown.showSignatures();
        shown.showDraftOfStructure();
        shown.showDraftOfSignature(structures, signatures);
        shown.showDraftOfBody();
        shown.showPacks();
        shown.showApplying();
        shown.showRoom();
        if (shown.calls > MOST_CALLS) {
            throw new AssertionError("showing took " + shown.calls + " calls");
        }
        return shown.text.toString();
    }

    /** Asks, notes the answer, and returns it; what is refused is noted by the exception's name. */
    private int note(Asking asking) {
        calls++;
        try {
            int answer = asking.ask();
            text.append(' ').append(answer);
            return answer;
        } catch (RuntimeException e) {
            text.append(' ').append(e.getClass().getSimpleName());
            return REFUSED;
        }
    }

    private static int number(boolean answer) {
        return answer ? 1 : 0;
    }

    private void title(String what) {
        text.append(" | ").append(what);
    }

    // ---- units, types, and how much there is

    private void showUnits() {
        title("units");
        note(x::stale);
        int unit = 0;
        while (unit <= 8 && noteChange(unit) != REFUSED) {
            unit++;
        }
        note(x::build);
        note(x::stale);
    }

    private int noteChange(int unit) {
        return note(() -> x.change(unit, -1));
    }

    /** The number of types is looked for by halves, since asking for each of 200 would take too many calls. */
    private void showTypes() {
        title("types");
        int there = 1;
        int notThere = 201;
        while (notThere - there > 1) {
            int middle = (there + notThere) / 2;
            if (noteType(middle, 0) == REFUSED) {
                notThere = middle;
            } else {
                there = middle;
            }
        }
        for (int type = there; type > there - 3; type--) {
            noteType(type, 0);
            noteType(type, 1);
            noteType(type, 2);
        }
    }

    private int noteType(int type, int what) {
        return note(() -> x.type(type, what));
    }

    private int showStructures() {
        title("structures");
        int structure = 0;
        while (structure <= 30 && noteItems(structure) != REFUSED) {
            structure++;
        }
        return structure;
    }

    private int noteItems(int structure) {
        return note(() -> x.items(structure));
    }

    private int showSignatures() {
        title("signatures");
        int signature = 0;
        while (signature <= 20 && noteSpecs(signature) != REFUSED) {
            signature++;
        }
        return signature;
    }

    private int noteSpecs(int signature) {
        return note(() -> x.specs(signature));
    }

    // ---- drafts: made what they are drafts of, or, where there is no room for that, tried name by name

    private void showDraftOfStructure() {
        title("draft of a structure");
        int made = note(x::structure);
        if (made != REFUSED) {
            showAllItems(made);
            return;
        }
        for (int name = 0; name < 10; name++) {
            tryItems(name);
        }
        for (int structure = 0; structure < MOST_COMPARED; structure++) {
            noteOpen(structure);
        }
    }

    private void tryItems(int name) {
        note(() -> number(x.addValue(name, 0, 0)));
        note(() -> number(x.addPart(name, 0)));
    }

    private void noteOpen(int structure) {
        note(() -> x.open(structure));
    }

    private void showAllItems(int structure) {
        int items = noteItems(structure);
        for (int kind = 0; kind < 3 && items > 0; kind++) {
            for (int name = 0; name < 10; name++) {
                showItem(structure, kind, name);
            }
        }
    }

    private void showItem(int structure, int kind, int name) {
        if (note(() -> x.item(structure, kind, name, 1)) != REFUSED) {
            note(() -> x.item(structure, kind, name, 0));
            note(() -> x.item(structure, kind, name, 2));
        }
    }

    private void showDraftOfSignature(int structures, int signatures) {
        title("draft of a signature");
        int made = note(x::signature);
        if (made == REFUSED) {
            for (int name = 0; name < 10; name++) {
                trySpecs(name);
            }
            return;
        }
        noteSpecs(made);
        for (int other = 0; other < Math.min(signatures, MOST_COMPARED); other++) {
            compareSignatures(made, other);
        }
        for (int structure = 0; structure < Math.min(structures, MOST_COMPARED); structure++) {
            noteMatch(structure, made);
        }
        showSizeInAll(made);
    }

    /** How often a signature goes into a new draft, and how many specs beside that, tells how many it has in all. */
    private void showSizeInAll(int signature) {
        int name = 0;
        while (name < 10 && notePart(name, signature) != REFUSED) {
            name++;
        }
        int more = 0;
        while (more < 10 && noteToldType(more) != REFUSED) {
            more++;
        }
    }

    private int notePart(int name, int signature) {
        return note(() -> x.specPart(name, signature));
    }

    private int noteToldType(int name) {
        return note(() -> x.specType(name, 0));
    }

    private void trySpecs(int name) {
        note(() -> x.specType(name, 0));
        note(() -> x.specValue(name, 0, PLAIN));
        note(() -> x.specPart(name, 0));
    }

    private void compareSignatures(int one, int other) {
        note(() -> number(x.alike(one, other)));
        note(() -> number(x.finer(one, other)));
        note(() -> number(x.finer(other, one)));
    }

    private void noteMatch(int structure, int signature) {
        note(() -> x.match(structure, signature));
    }

    private void showDraftOfBody() {
        title("draft of a body");
        int made = note(() -> x.functor(0, -1, false));
        if (made != REFUSED) {
            int applied = note(() -> x.apply(made, 0));
            if (applied != REFUSED) {
                showAllItems(applied);
            }
            return;
        }
        for (int name = 0; name < 10; name++) {
            tryBody(name);
        }
    }

    private void tryBody(int name) {
        note(() -> x.bodyType(name, -1));
        note(() -> x.bodyValue(name, 0, PLAIN, -1, 0));
    }

    // ---- packs, functors, and what room is left

    private void showPacks() {
        title("packs");
        for (int pack = 0; pack <= 10; pack++) {
            noteUnpack(pack);
        }
    }

    private void noteUnpack(int pack) {
        note(() -> x.unpack(pack));
    }

    private void showApplying() {
        title("functors");
        for (int functor = 0; functor <= 8; functor++) {
            noteApply(functor);
        }
    }

    private void noteApply(int functor) {
        note(() -> x.apply(functor, 0));
    }

    private void showRoom() {
        title("room");
        note(() -> x.addType(9, -1));
        note(x::structure);
        note(x::signature);
    }
}
