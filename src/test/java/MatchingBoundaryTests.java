/**
 * The boundary cases of promises 18 to 22: matching, sealing, views, and comparing signatures. The comment above
 * each test is the sentence of the document that it holds.
 */
public final class MatchingBoundaryTests extends Checks {

    // ---- states

    /**
     * A counter; structure 1 has it as PART 0, and a TYPE 1; signature 1 asks for these: sealing by it makes two
     * structures and two types.
     */
    private static ModuleLoft nested() {
        ModuleLoft x = counter();
        x.addPart(0, 0);
        x.addType(1, 0);
        x.structure();
        x.specPart(0, 0);
        x.specType(1, A);
        x.signature();
        return x;
    }

    /** As nested, with so many types and so many structures. */
    private static ModuleLoft nestedAmong(int types, int structures) {
        ModuleLoft x = nested();
        fillTypes(x, types);
        fillStructures(x, structures);
        return x;
    }

    /** A counter; structure 1 and the signatures 1 to 3 are empty, have other names, and tell another type. */
    private static ModuleLoft unmatched() {
        ModuleLoft x = counter();
        x.structure();
        x.signature();
        x.specType(5, A);
        x.signature();
        x.specType(0, 0);
        x.signature();
        return x;
    }

    /** Structure 0 is empty; 1 has for all names a TYPE of INT, a VALUE of INT, and a PART 0. */
    private static ModuleLoft allNames() {
        ModuleLoft x = new ModuleLoft();
        x.structure();
        for (int name = 0; name < 10; name++) {
            x.addType(name, 0);
            x.addValue(name, 0, name);
            x.addPart(name, 0);
        }
        x.structure();
        return x;
    }

    /** Makes the draft a signature, and matches a structure by it. */
    private static int matchByDraft(ModuleLoft x, int structure) {
        return x.match(structure, x.signature());
    }

    // ---- promise 18

    // "structure: a structure": the first and the last of 30 are, those beside them are not.
    static void promise18Structures() {
        ModuleLoft x = counter();
        dueThrow(IOOBE, () -> x.match(1, 0));
        fillStructures(x, 29);
        x.open(0);
        x.structure();
        due(0, x.match(0, 0));
        due(10, x.match(28, 0));
        due(0, x.match(29, 0));
        for (int structure : new int[] {-1, 30, LEAST, GREATEST}) {
            dueThrow(IOOBE, () -> x.match(structure, 0));
        }
    }

    // "signature: a signature": the first and the last of 20 are, those beside them are not.
    static void promise18Signatures() {
        ModuleLoft x = counter();
        dueThrow(IOOBE, () -> x.match(0, 1));
        fillSignatures(x, 19);
        x.specPart(9, 0);
        x.signature();
        due(0, x.match(0, 0));
        due(0, x.match(0, 18));
        due(59, x.match(0, 19));
        for (int signature : new int[] {-1, 20, LEAST, GREATEST}) {
            dueThrow(IOOBE, () -> x.match(0, signature));
        }
    }

    // "its specs are gone through": an empty signature has none that does not fit, an empty structure nothing that
    // does.
    static void promise18Empty() {
        ModuleLoft x = unmatched();
        due(0, x.match(1, 1));
        due(0, x.match(0, 1));
        due(10, x.match(1, 0));
        due(10, x.match(1, 3));
    }

    // "1 a type is missing", "3 a value is missing", "5 a part is missing": of the first name and of the last.
    static void promise18Missing() {
        for (int name = 0; name < 10; name += 9) {
            ModuleLoft x = allNames();
            x.specType(name, A);
            due(10 + name, matchByDraft(x, 0));
            x.specType(name, 1);
            due(10 + name, matchByDraft(x, 0));
            x.specValue(name, 0, PLAIN);
            due(30 + name, matchByDraft(x, 0));
            x.specPart(name, 0);
            due(50 + name, matchByDraft(x, 0));
        }
    }

    // "2 a type is told and the structure has another one", "4 a value has another type", "6 a part is not matched
    // by its signature"
    static void promise18Another() {
        for (int name = 0; name < 10; name += 9) {
            ModuleLoft x = allNames();
            x.specType(name, 1);
            due(20 + name, matchByDraft(x, 1));
            x.specValue(name, 1, PLAIN);
            due(40 + name, matchByDraft(x, 1));
            x.specPart(name, 0);
            due(60 + name, matchByDraft(x, 1));
        }
    }

    // "The first that does not fit is the reason": that goes by the specs' order, not by the kinds or the items.
    static void promise18First() {
        ModuleLoft x = allNames();
        x.specType(3, 0);
        x.specValue(4, 1, PLAIN);
        x.specType(2, 1);
        due(44, matchByDraft(x, 1));
        x.specType(2, 1);
        x.specValue(4, 1, PLAIN);
        due(22, matchByDraft(x, 1));
        x.specType(1, A);
        x.signature();
        x.specPart(8, 2);
        x.specType(9, 1);
        due(68, matchByDraft(x, 1));
        x.specType(9, 1);
        x.specPart(8, 2);
        due(29, matchByDraft(x, 1));
    }

    // The same, where all 30 specs but the last one fit, and where that one fits, too.
    static void promise18LastSpec() {
        ModuleLoft x = allNames();
        x.signature();
        x.specType(5, A);
        x.signature();
        for (int name = 0; name < 10; name++) {
            x.specType(name, name == 0 ? A : -1);
            x.specValue(name, -1 - name, PLAIN);
        }
        for (int name = 0; name < 9; name++) {
            x.specPart(name, 0);
        }
        due(0, matchByDraft(x, 1));
        x.include(2);
        due(30, x.specPart(9, 1));
        due(69, matchByDraft(x, 1));
        x.include(2);
        due(30, x.specPart(9, 0));
        due(0, matchByDraft(x, 1));
    }

    // "each type name means the type that the structure has for it": of the first name and of the last.
    static void promise18TypeNames() {
        ModuleLoft x = new ModuleLoft();
        x.addType(9, -1);
        x.addType(0, -1);
        x.addValue(0, 3, 0);
        x.addValue(9, 2, 0);
        x.structure();
        x.specType(0, A);
        x.specType(9, A);
        x.specValue(0, -1, PLAIN);
        x.specValue(9, -10, PLAIN);
        due(0, matchByDraft(x, 0));
        x.specType(0, A);
        x.specType(9, A);
        x.specValue(0, -10, PLAIN);
        due(40, matchByDraft(x, 0));
        x.specType(0, A);
        x.specType(9, -1);
        due(29, matchByDraft(x, 0));
    }

    // "Two types are the same if they have the same number": two new ones never are, an ARROW of the two always is.
    static void promise18SameNumber() {
        ModuleLoft x = new ModuleLoft();
        x.addType(0, -1);
        x.addType(1, -1);
        x.addValue(0, x.arrow(2, 3), 0);
        x.structure();
        x.specType(0, 3);
        due(20, matchByDraft(x, 0));
        x.specType(0, A);
        x.specType(1, A);
        x.specValue(0, -1, -2);
        due(0, matchByDraft(x, 0));
        x.specValue(0, 4, PLAIN);
        due(0, matchByDraft(x, 0));
        for (int[] other : new int[][] {{3, 2}, {2, 2}, {3, 3}, {2, PLAIN}, {3, PLAIN}, {2, 4}, {4, 3}}) {
            x.specValue(0, other[0], other[1]);
            due(40, matchByDraft(x, 0));
        }
    }

    // "the value is an ARROW from the former to this": one that no one has made is none of the structure's, and is
    // not made.
    static void promise18ArrowNotThere() {
        ModuleLoft x = counter();
        fillTypes(x, 199);
        x.specValue(0, 2, 2);
        due(40, matchByDraft(x, 0));
        dueTypes(199, x);
        due(199, x.arrow(2, 2));
        due(40, x.match(0, 1));
    }

    // "6 a part is not matched by its signature": as deep as there are signatures, by the name of the outermost.
    static void promise18Deepest() {
        ModuleLoft x = chain(20);
        due(0, x.match(19, 19));
        due(0, x.match(1, 1));
        due(69, x.match(20, 19));
        due(51, x.match(0, 1));
        due(59, x.match(18, 19));
        due(58, x.match(19, 18));
    }

    /**
     * Structures 0 up, each with the one before as PART, by the last digit of its own number; the innermost has
     * TYPE 3. The signatures ask for the same. Behind the structures stands one in which the innermost is empty.
     */
    private static ModuleLoft chain(int levels) {
        ModuleLoft x = new ModuleLoft();
        x.addType(3, 0);
        x.structure();
        x.specType(3, A);
        x.signature();
        for (int level = 1; level < levels; level++) {
            x.addPart(level % 10, level - 1);
            x.structure();
            x.specPart(level % 10, level - 1);
            x.signature();
        }
        x.addPart((levels - 1) % 10, 0);
        x.structure();
        return x;
    }

    // "A call that throws an exception changes nothing."
    static void promise18Refused() {
        dueRefused(IOOBE, MatchingBoundaryTests::nested, x -> x.match(2, 0));
        dueRefused(IOOBE, MatchingBoundaryTests::nested, x -> x.match(0, 2));
        dueRefused(IOOBE, MatchingBoundaryTests::nested, x -> x.match(-1, -1));
    }

    // ---- promise 19

    // "structure: a structure", "signature: a signature": those beside the first and the last are not there.
    static void promise19NoSuch() {
        ModuleLoft x = unmatched();
        for (int structure : new int[] {-1, 2, 29, 30, LEAST, GREATEST}) {
            dueThrow(IOOBE, () -> x.seal(structure, 0));
        }
        for (int signature : new int[] {-1, 4, 19, 20, LEAST, GREATEST}) {
            dueThrow(IOOBE, () -> x.seal(0, signature));
        }
        fillSignatures(x, 19);
        x.include(0);
        due(19, x.signature());
        due(2, x.seal(0, 19));
        due(3, x.seal(2, 0));
    }

    // "for each spec, in order, an item": for none, none; the type that is not asked for is not there.
    static void promise19Empty() {
        ModuleLoft x = unmatched();
        due(2, x.seal(1, 1));
        due(0, x.items(2));
        due(3, x.seal(0, 1));
        due(0, x.items(3));
        dueTypes(3, x);
    }

    // The same, for all 30 names of all kinds, in another order than that of the structure.
    static void promise19AllNames() {
        ModuleLoft x = allNames();
        x.signature();
        for (int name = 9; name >= 0; name--) {
            x.specPart(name, 0);
            x.specValue(name, 0, PLAIN);
            x.specType(name, 0);
        }
        x.signature();
        due(12, x.seal(1, 1));
        due(30, x.items(12));
        for (int name = 9; name >= 0; name--) {
            int place = 3 * (9 - name);
            due(place, x.item(12, PART, name, 1));
            due(place + 1, x.item(12, VALUE, name, 1));
            due(place + 2, x.item(12, TYPE, name, 1));
            due(2 + 9 - name, x.item(12, PART, name, 0));
            due(name, x.item(12, VALUE, name, 2));
        }
    }

    // "Structures are numbered from 0, at most 30": the last one goes, the next is "more than told".
    static void promise19LastStructure() {
        ModuleLoft x = counter();
        fillStructures(x, 29);
        due(29, x.seal(0, 0));
        dueThrow(ISE, () -> x.seal(0, 0));
        dueTypes(4, x);
        dueThrow(IOOBE, () -> x.items(30));
    }

    // "a part is sealed .., as a new structure, which is made ahead of the whole": there has to be room for both.
    static void promise19RoomForParts() {
        ModuleLoft x = nestedAmong(5, 28);
        due(29, x.seal(1, 1));
        due(28, x.item(29, PART, 0, 0));
        due(2, x.items(28));
        ModuleLoft y = nestedAmong(5, 29);
        dueThrow(ISE, () -> y.seal(1, 1));
        dueThrow(IOOBE, () -> y.items(29));
        dueTypes(5, y);
        due(29, y.seal(0, 0));
    }

    // "(parts of parts first)": as deep as there is room for.
    static void promise19Deepest() {
        ModuleLoft x = chain(14);
        due(28, x.seal(13, 13));
        for (int level = 1; level < 14; level++) {
            due(15 + level - 1, x.item(15 + level, PART, level % 10, 0));
        }
        due(2, x.item(15, TYPE, 3, 0));
        ModuleLoft y = chain(15);
        dueThrow(ISE, () -> y.seal(14, 14));
        due(29, y.seal(13, 13));
    }

    // "Types are numbered from 0, at most 200": as many new ones as there is room for, and one more.
    static void promise19LastType() {
        ModuleLoft x = nestedAmong(198, 3);
        due(4, x.seal(1, 1));
        due(198, x.item(3, TYPE, 0, 0));
        due(199, x.item(4, TYPE, 1, 0));
        ModuleLoft y = nestedAmong(199, 3);
        dueThrow(ISE, () -> y.seal(1, 1));
        dueTypes(199, y);
        due(3, y.seal(0, 0));
        due(199, y.item(3, TYPE, 0, 0));
        dueThrow(ISE, () -> y.seal(0, 0));
    }

    // "a told one, and the types of values, are what is told": what makes no new type needs no room for one.
    static void promise19NoNewType() {
        ModuleLoft x = new ModuleLoft();
        x.addType(0, -1);
        x.addValue(0, x.arrow(2, 0), -10000);
        x.addValue(9, 2, 10000);
        x.structure();
        x.specType(0, 2);
        x.specValue(9, -1, PLAIN);
        x.specValue(0, -1, 0);
        x.signature();
        fillTypes(x, 200);
        due(1, x.seal(0, 0));
        due(2, x.item(1, TYPE, 0, 0));
        due(3, x.item(1, VALUE, 0, 0));
        due(-10000, x.item(1, VALUE, 0, 2));
        due(10000, x.item(1, VALUE, 9, 2));
    }

    // The same: an ARROW of a new type is a new ARROW, which needs room.
    static void promise19LastArrow() {
        for (int types = 198; types <= 199; types++) {
            ModuleLoft x = new ModuleLoft();
            x.addType(0, -1);
            x.addValue(0, x.arrow(2, 2), 0);
            x.structure();
            x.specType(0, A);
            x.specValue(0, -1, -1);
            x.signature();
            fillTypes(x, types);
            if (types == 198) {
                due(1, x.seal(0, 0));
                due(199, x.item(1, VALUE, 0, 0));
                due(198, x.type(199, 1));
            } else {
                dueThrow(ISE, () -> x.seal(0, 0));
                dueTypes(199, x);
            }
        }
    }

    // "a value keeps its number": the smallest and the largest; what is no VALUE has none.
    static void promise19Numbers() {
        ModuleLoft x = counter();
        x.addType(0, 0);
        x.addValue(0, 0, -10000);
        x.addValue(9, 0, 10000);
        x.addPart(0, 0);
        x.structure();
        x.specValue(9, 0, PLAIN);
        x.specPart(0, 0);
        x.specType(0, A);
        x.specValue(0, 0, PLAIN);
        x.signature();
        due(3, x.seal(1, 1));
        due(5, x.view(1, 1));
        for (int structure = 3; structure <= 5; structure += 2) {
            due(-10000, x.item(structure, VALUE, 0, 2));
            due(10000, x.item(structure, VALUE, 9, 2));
            due(0, x.item(structure, TYPE, 0, 2));
            due(0, x.item(structure, PART, 0, 2));
        }
    }

    // "an abstract type becomes a new type with a name of its own": each time, in each part, and what tells it is
    // the same.
    static void promise19Anew() {
        ModuleLoft x = counter();
        x.addPart(0, 0);
        x.addPart(1, 0);
        x.structure();
        x.specPart(1, 0);
        x.specPart(0, 0);
        x.signature();
        due(4, x.seal(1, 1));
        due(2, x.item(4, PART, 1, 0));
        due(3, x.item(4, PART, 0, 0));
        due(3, x.item(2, TYPE, 0, 0));
        due(3, x.item(2, VALUE, 0, 0));
        due(4, x.item(3, TYPE, 0, 0));
        due(7, x.seal(1, 1));
        due(5, x.item(5, TYPE, 0, 0));
        due(6, x.item(6, TYPE, 0, 0));
        due(1, x.type(6, 0));
        due(2, x.item(0, TYPE, 0, 0));
    }

    // "Throws IllegalStateException .. if it is not matched": nothing is made, whatever does not fit.
    static void promise19NotMatched() {
        ModuleLoft x = unmatched();
        dueThrow(ISE, () -> x.seal(1, 0));
        dueThrow(ISE, () -> x.seal(0, 2));
        dueThrow(ISE, () -> x.seal(0, 3));
        dueTypes(3, x);
        due(2, x.structure());
    }

    // "If several apply, IndexOutOfBoundsException goes first"
    static void promise19FirstException() {
        ModuleLoft x = unmatched();
        fillTypes(x, 200);
        fillStructures(x, 30);
        dueThrow(IOOBE, () -> x.seal(30, 0));
        dueThrow(IOOBE, () -> x.seal(0, 4));
        dueThrow(IOOBE, () -> x.seal(-1, 2));
        dueThrow(IOOBE, () -> x.seal(1, -1));
        dueThrow(ISE, () -> x.seal(0, 0));
        dueThrow(ISE, () -> x.seal(1, 0));
    }

    // "A call that throws an exception changes nothing": no part, no type and no ARROW is made.
    static void promise19Refused() {
        dueRefused(IOOBE, MatchingBoundaryTests::nested, x -> x.seal(2, 0));
        dueRefused(IOOBE, MatchingBoundaryTests::nested, x -> x.seal(0, 2));
        dueRefused(ISE, MatchingBoundaryTests::nested, x -> x.seal(0, 1));
        dueRefused(ISE, () -> nestedAmong(199, 3), x -> x.seal(1, 1));
        dueRefused(ISE, () -> nestedAmong(200, 3), x -> x.seal(1, 1));
        dueRefused(ISE, () -> nestedAmong(5, 29), x -> x.seal(1, 1));
        dueRefused(ISE, () -> nestedAmong(5, 30), x -> x.seal(0, 0));
    }

    // ---- promise 20

    // "structure: a structure", "signature: a signature": those beside the first and the last are not there.
    static void promise20NoSuch() {
        ModuleLoft x = unmatched();
        for (int structure : new int[] {-1, 2, 29, 30, LEAST, GREATEST}) {
            dueThrow(IOOBE, () -> x.view(structure, 0));
        }
        for (int signature : new int[] {-1, 4, 19, 20, LEAST, GREATEST}) {
            dueThrow(IOOBE, () -> x.view(0, signature));
        }
        fillSignatures(x, 19);
        x.include(0);
        due(19, x.signature());
        due(2, x.view(0, 19));
        due(3, x.view(2, 0));
    }

    // "A VIEW does the same": for no specs there are no items.
    static void promise20Empty() {
        ModuleLoft x = unmatched();
        due(2, x.view(1, 1));
        due(0, x.items(2));
        due(3, x.view(0, 1));
        due(0, x.items(3));
    }

    // "but an abstract type stays the type that the structure has": so it needs no room for types.
    static void promise20NoNewType() {
        ModuleLoft x = new ModuleLoft();
        x.addType(0, -1);
        x.addType(9, 1);
        x.addValue(0, x.arrow(2, 1), 10000);
        x.structure();
        x.specType(9, A);
        x.specType(0, A);
        x.specValue(0, -1, -10);
        x.signature();
        fillTypes(x, 200);
        due(1, x.view(0, 0));
        due(2, x.item(1, TYPE, 0, 0));
        due(1, x.item(1, TYPE, 9, 0));
        due(0, x.item(1, TYPE, 9, 1));
        due(3, x.item(1, VALUE, 0, 0));
        due(10000, x.item(1, VALUE, 0, 2));
        dueTypes(200, x);
    }

    // "Structures are numbered from 0, at most 30": the last one goes, the next is "more than told".
    static void promise20LastStructure() {
        ModuleLoft x = counter();
        fillStructures(x, 29);
        due(29, x.view(0, 0));
        dueThrow(ISE, () -> x.view(0, 0));
        dueThrow(IOOBE, () -> x.items(30));
    }

    // "A VIEW does the same": a part is made as a new structure ahead of the whole, so there has to be room for both.
    static void promise20RoomForParts() {
        ModuleLoft x = nestedAmong(200, 28);
        due(29, x.view(1, 1));
        due(28, x.item(29, PART, 0, 0));
        due(2, x.item(28, TYPE, 0, 0));
        due(5, x.item(28, VALUE, 0, 2));
        ModuleLoft y = nestedAmong(5, 29);
        dueThrow(ISE, () -> y.view(1, 1));
        dueThrow(IOOBE, () -> y.items(29));
        due(29, y.view(0, 0));
    }

    // "Throws IllegalStateException .. if it is not matched"
    static void promise20NotMatched() {
        ModuleLoft x = unmatched();
        dueThrow(ISE, () -> x.view(1, 0));
        dueThrow(ISE, () -> x.view(0, 2));
        dueThrow(ISE, () -> x.view(0, 3));
        due(2, x.structure());
    }

    // "If several apply, IndexOutOfBoundsException goes first"
    static void promise20FirstException() {
        ModuleLoft x = unmatched();
        fillStructures(x, 30);
        dueThrow(IOOBE, () -> x.view(30, 0));
        dueThrow(IOOBE, () -> x.view(0, 4));
        dueThrow(IOOBE, () -> x.view(-1, 2));
        dueThrow(IOOBE, () -> x.view(1, -1));
        dueThrow(ISE, () -> x.view(0, 0));
        dueThrow(ISE, () -> x.view(1, 0));
    }

    // "A call that throws an exception changes nothing": no part is made.
    static void promise20Refused() {
        dueRefused(IOOBE, MatchingBoundaryTests::nested, x -> x.view(2, 0));
        dueRefused(IOOBE, MatchingBoundaryTests::nested, x -> x.view(0, 2));
        dueRefused(ISE, MatchingBoundaryTests::nested, x -> x.view(0, 1));
        dueRefused(ISE, () -> nestedAmong(5, 29), x -> x.view(1, 1));
        dueRefused(ISE, () -> nestedAmong(5, 30), x -> x.view(0, 0));
    }

    // ---- promise 21

    // "Throws IndexOutOfBoundsException if there is no such signature, of either"
    static void promise21NoSuch() {
        ModuleLoft x = counter();
        for (int signature : new int[] {-1, 1, 19, 20, LEAST, GREATEST}) {
            dueThrow(IOOBE, () -> x.finer(signature, 0));
            dueThrow(IOOBE, () -> x.finer(0, signature));
            dueThrow(IOOBE, () -> x.finer(signature, signature));
        }
        fillSignatures(x, 20);
        due(true, x.finer(0, 19));
        due(false, x.finer(19, 0));
        due(true, x.finer(19, 19));
        dueThrow(IOOBE, () -> x.finer(20, 0));
        dueThrow(IOOBE, () -> x.finer(0, 20));
    }

    // "or as fine": each one as itself; the empty one is the coarsest.
    static void promise21EmptyAndItself() {
        ModuleLoft x = unmatched();
        x.signature();
        for (int signature = 0; signature < 5; signature++) {
            due(true, x.finer(signature, signature));
            due(true, x.finer(signature, 1));
        }
        due(true, x.finer(1, 4));
        due(false, x.finer(1, 0));
        due(false, x.finer(4, 3));
    }

    // "with a new type for each abstract one": it is like no type that is there, like no other, and like itself.
    static void promise21AbstractOnes() {
        ModuleLoft x = new ModuleLoft();
        x.specType(0, A);
        x.specType(9, A);
        x.signature();
        x.specType(0, A);
        x.specType(9, -1);
        x.signature();
        x.specType(9, A);
        x.specType(0, -10);
        x.signature();
        x.specType(0, 0);
        x.specType(9, 0);
        x.signature();
        boolean[][] want = {
            {true, false, false, false},
            {true, true, true, false},
            {true, true, true, false},
            {true, true, true, true}};
        for (int signature = 0; signature < 4; signature++) {
            for (int other = 0; other < 4; other++) {
                due(want[signature][other], x.finer(signature, other));
            }
        }
    }

    // "if a structure, with a new type for each abstract one, is": the types of parts are apart from those of the
    // whole.
    static void promise21Parts() {
        ModuleLoft x = counter();
        x.specType(0, 0);
        x.specValue(0, -1, PLAIN);
        x.signature();
        x.specPart(0, 0);
        x.specType(0, A);
        x.signature();
        x.specType(0, A);
        x.specPart(0, 1);
        x.signature();
        due(true, x.finer(3, 2));
        due(false, x.finer(2, 3));
        x.specPart(0, 3);
        x.signature();
        x.specPart(0, 2);
        x.signature();
        due(true, x.finer(4, 5));
        due(false, x.finer(5, 4));
    }

    // The same, as deep as there are signatures.
    static void promise21Deepest() {
        ModuleLoft x = chain(20);
        due(true, x.finer(19, 19));
        due(false, x.finer(19, 18));
        due(false, x.finer(18, 19));
        ModuleLoft y = chain(9);
        y.with(0, 3, 0, false);
        for (int level = 1; level < 9; level++) {
            y.specPart(level, 8 + level);
            y.signature();
        }
        due(true, y.finer(17, 8));
        due(false, y.finer(8, 17));
    }

    // "nothing is made by that": so it goes where no more could be made, and leaves room.
    static void promise21NothingIsMade() {
        ModuleLoft x = nestedAmong(200, 30);
        x.specType(0, A);
        x.specValue(0, -1, -1);
        x.signature();
        due(true, x.finer(1, 1));
        due(false, x.finer(1, 0));
        due(true, x.finer(2, 2));
        due(false, x.finer(2, 0));
        ModuleLoft y = nestedAmong(199, 29);
        due(true, y.finer(1, 1));
        due(false, y.finer(0, 1));
        dueTypes(199, y);
        due(29, y.structure());
        due(199, y.addType(0, -1));
    }

    // "each structure that it makes by sealing": a value told as an ARROW has it, made or not.
    static void promise21Arrows() {
        ModuleLoft x = new ModuleLoft();
        x.specValue(0, 0, 1);
        x.signature();
        x.specType(0, 0);
        x.specType(1, 1);
        x.specValue(0, -1, -2);
        x.signature();
        due(false, x.finer(0, 1));
        due(true, x.finer(1, 0));
        due(2, x.arrow(0, 1));
        x.specValue(0, 2, PLAIN);
        x.signature();
        due(true, x.finer(2, 0));
        due(true, x.finer(0, 2));
        due(true, x.finer(1, 2));
        due(3, x.arrow(1, 0));
        x.specValue(0, 3, PLAIN);
        x.signature();
        due(false, x.finer(3, 0));
        due(false, x.finer(0, 3));
    }

    // "A call that throws an exception changes nothing."
    static void promise21Refused() {
        dueRefused(IOOBE, MatchingBoundaryTests::nested, x -> x.finer(2, 0));
        dueRefused(IOOBE, MatchingBoundaryTests::nested, x -> x.finer(0, 2));
    }

    // ---- promise 22

    // "Throws IndexOutOfBoundsException if there is no such signature, of either"
    static void promise22NoSuch() {
        ModuleLoft x = counter();
        for (int signature : new int[] {-1, 1, 19, 20, LEAST, GREATEST}) {
            dueThrow(IOOBE, () -> x.alike(signature, 0));
            dueThrow(IOOBE, () -> x.alike(0, signature));
            dueThrow(IOOBE, () -> x.alike(signature, signature));
        }
        fillSignatures(x, 19);
        x.include(0);
        x.signature();
        due(true, x.alike(0, 19));
        due(true, x.alike(19, 0));
        due(false, x.alike(18, 19));
        dueThrow(IOOBE, () -> x.alike(20, 0));
        dueThrow(IOOBE, () -> x.alike(0, 20));
    }

    // "if they have the same specs": also if they have none; each is like itself; one spec more is not the same.
    static void promise22EmptyAndOneMore() {
        ModuleLoft x = new ModuleLoft();
        x.signature();
        x.signature();
        x.specType(0, A);
        x.signature();
        x.include(2);
        x.specValue(0, -1, PLAIN);
        x.signature();
        due(true, x.alike(0, 1));
        due(true, x.alike(1, 0));
        due(true, x.alike(3, 3));
        due(false, x.alike(0, 2));
        due(false, x.alike(2, 0));
        due(false, x.alike(2, 3));
        due(false, x.alike(3, 2));
    }

    // "in the same order"
    static void promise22Order() {
        ModuleLoft x = new ModuleLoft();
        x.specType(0, A);
        x.specType(1, A);
        x.signature();
        x.specType(1, A);
        x.specType(0, A);
        x.signature();
        due(false, x.alike(0, 1));
        due(true, x.finer(0, 1));
        due(true, x.finer(1, 0));
    }

    // "the same specs": of another kind, or with another name, it is another one.
    static void promise22KindsAndNames() {
        ModuleLoft x = new ModuleLoft();
        x.signature();
        x.specType(0, 0);
        x.signature();
        x.specValue(0, 0, PLAIN);
        x.signature();
        x.specPart(0, 0);
        x.signature();
        x.specType(9, 0);
        x.signature();
        x.specValue(9, 0, PLAIN);
        x.signature();
        x.specPart(9, 0);
        x.signature();
        for (int signature = 0; signature < 7; signature++) {
            for (int other = 0; other < 7; other++) {
                due(signature == other, x.alike(signature, other));
            }
        }
    }

    // "what is told being compared as it is written": by a name or by a type, as an ARROW's number or as one of two.
    static void promise22Written() {
        ModuleLoft x = new ModuleLoft();
        x.arrow(0, 0);
        int[][] told = {
            {A, 0, PLAIN}, {0, 0, PLAIN}, {0, -1, PLAIN}, {0, 2, PLAIN}, {0, 0, 0}, {0, -1, 0}, {0, 0, -1}};
        for (int[] one : told) {
            x.specType(0, one[0]);
            x.specValue(0, one[1], one[2]);
            x.signature();
        }
        for (int signature = 0; signature < told.length; signature++) {
            for (int other = 0; other < told.length; other++) {
                due(signature == other, x.alike(signature, other));
            }
        }
    }

    // "(parts with signatures that are alike)": as deep as there are signatures.
    static void promise22Deepest() {
        ModuleLoft x = chain(20);
        due(true, x.alike(19, 19));
        due(false, x.alike(19, 18));
        due(false, x.alike(19, 9));
        due(true, x.alike(0, 0));
    }

    // The same: they need not have the same number.
    static void promise22Parts() {
        ModuleLoft x = new ModuleLoft();
        for (int row = 0; row < 2; row++) {
            x.specType(0, A);
            int last = x.signature();
            for (int level = 1; level < 9; level++) {
                x.specPart(level, last);
                last = x.signature();
            }
        }
        due(true, x.alike(8, 17));
        due(false, x.alike(8, 16));
        due(18, x.with(0, 0, 0, false));
        x.specPart(1, 18);
        due(19, x.signature());
        due(true, x.alike(1, 10));
        due(false, x.alike(1, 19));
        due(false, x.alike(19, 10));
    }

    // "A call that throws an exception changes nothing."
    static void promise22Refused() {
        dueRefused(IOOBE, MatchingBoundaryTests::nested, x -> x.alike(2, 0));
        dueRefused(IOOBE, MatchingBoundaryTests::nested, x -> x.alike(0, 2));
    }

    public static void main(String[] args) {
        runAll(MatchingBoundaryTests.class);
    }
}
