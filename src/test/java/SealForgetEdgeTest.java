/** The sentences of promises 3 (seal) and 4 (forget), at their bounds. */
final class SealForgetEdgeTest {
    public static void main(String[] args) {
        goesOnWithANewPart();
        sealChangesNoAnswer();
        sealAfterEachTake();
        sealBetweenRefusals();
        forgetsAllOfTheHour();
        forgetsNoOtherHour();
        forgetAnswersHowMany();
        badHour();
        Checks.end();
    }

    private static void goesOnWithANewPart() {
        Checks.sentence("Promise 3",
            "Closes what has been taken so far and goes on with a new part.");
        RollupStore x = new RollupStore();
        x.seal();
        Checks.due("first take, after an empty part", x.take(0, 0, 0, -100), 1);
        x.seal();
        Checks.due("same sort in the next part", x.take(3, 0, 0, 100), 2);
        x.seal();
        Checks.due("same sort two parts on", x.take(2, 0, 0, 50), 3);
        Checks.due("sorts()", x.sorts(), 1);
        Checks.due("sortsPassing", x.sortsPassing(Checks.EVERY), 1);
        Checks.due("least of an older part", x.least(Checks.EVERY), -100);
        Checks.due("greatest of an older part", x.greatest(Checks.EVERY), 100);
        Checks.due("sum over the parts", x.sum(Checks.EVERY), 50);
        Checks.due("forget over the parts", x.forget(0), 3);
        Checks.due("least after forget", x.least(Checks.EVERY), Edge.NONE);
        x.seal();
        Checks.due("take after forget and seal", x.take(0, 0, 0, 1), 1);
    }

    private static void sealChangesNoAnswer() {
        Checks.sentence("Promise 3", "No answer changes by it.");
        for (int seals = 1; seals <= 22; seals += 7) {
            sealed(seals + " seals of none", new RollupStore(), new RollupStore(), seals);
            sealed(seals + " seals of one", Edge.one(), Edge.one(), seals);
            sealed(seals + " seals of some", Edge.some(), Edge.some(), seals);
            sealed(seals + " seals of 40 sorts", Edge.ofSorts(40, 3), Edge.ofSorts(40, 3), seals);
            sealed(seals + " seals of 400 events", Edge.fullOfEvents(1, 3),
                Edge.fullOfEvents(1, 3), seals);
            sealed(seals + " seals of 400 events of 40 sorts", Edge.fullOfEvents(40, -3),
                Edge.fullOfEvents(40, -3), seals);
        }
    }

    private static void sealed(String name, RollupStore x, RollupStore y, int seals) {
        for (int i = 0; i < seals; i++) {
            x.seal();
        }
        Edge.alike(name, x, y);
    }

    private static void sealAfterEachTake() {
        Checks.sentence("Promise 3", "No answer changes by it. (as many parts as there can be)");
        RollupStore x = new RollupStore();
        RollupStore y = new RollupStore();
        for (int i = 0; i < 210; i++) {
            int sort = i % 43;
            Checks.due("take " + i + " in its own part", Edge.takeOfSort(x, sort, i - 100),
                Edge.takeOfSort(y, sort, i - 100));
            x.seal();
        }
        Edge.alike("210 parts", x, y);
        RollupStore all = new RollupStore();
        for (int i = 1; i <= 256; i++) {
            Checks.due("take " + i + " of one sort over parts", all.take(0, 0, 0, 1), i);
            all.seal();
        }
    }

    private static void sealBetweenRefusals() {
        Checks.sentence("Promise 3", "No answer changes by it. (of a refused call)");
        RollupStore x = Edge.fullOfEvents(1, 1);
        Checks.due("401st", Edge.takeOfSort(x, 0, 1), Edge.FULL);
        x.seal();
        Checks.due("401st in a new part", Edge.takeOfSort(x, 0, 1), Edge.FULL);
        Checks.due("events()", x.events(), 400);
        RollupStore y = Edge.ofSorts(40, 1);
        y.seal();
        Checks.due("41st sort in a new part", Edge.takeOfSort(y, 40, 1), Edge.FULL);
        Checks.due("old sort in a new part", Edge.takeOfSort(y, 39, 1), 2);
        y.seal();
        Checks.due("bad take in a new part", y.take(64, 0, 0, 0), Edge.BAD);
        Checks.due("bad forget in a new part", y.forget(16), Edge.BAD);
        Checks.due("no filter in a new part", y.count(262144), Edge.BAD);
    }

    private static void forgetsAllOfTheHour() {
        Checks.sentence("Promise 4", "Forgets all events with this hour");
        for (int hour = 0; hour <= 15; hour++) {
            RollupStore x = new RollupStore();
            for (int i = 0; i < 64; i++) {
                x.take(4 * hour + i % 4, i / 4 % 4, i / 16, 100 - i);
            }
            String name = "after forget(" + hour + ") of 16 sorts";
            Checks.due("forget(" + hour + ")", x.forget(hour), 64);
            Checks.due(name + ": forget again", x.forget(hour), 0);
            Edge.alike(name, x, new RollupStore());
        }
    }

    private static void forgetsNoOtherHour() {
        Checks.sentence("Promise 4", "Forgets all events with this hour (and no others)");
        for (int hour = 0; hour <= 15; hour++) {
            RollupStore x = new RollupStore();
            RollupStore without = new RollupStore();
            for (int time = 0; time <= 63; time++) {
                x.take(time, time % 4, 3 - time % 4 / 2, time - 30);
                if (time / 4 != hour && time < 40) {
                    without.take(time, time % 4, 3 - time % 4 / 2, time - 30);
                }
            }
            // 40 sorts are there after the first 40 times: the later ones were refused.
            Checks.due("forget(" + hour + ")", x.forget(hour), hour < 10 ? 4 : 0);
            Edge.alike("after forget(" + hour + ")", x, without);
        }
    }

    private static void forgetAnswersHowMany() {
        Checks.sentence("Promise 4", "and answers how many they were");
        for (int hour = 0; hour <= 15; hour++) {
            RollupStore x = new RollupStore();
            Checks.due("none in hour " + hour, x.forget(hour), 0);
            x.take(4 * hour + 3, 0, 0, 0);
            Checks.due("one in hour " + hour, x.forget(hour), 1);
            Checks.due("none again in hour " + hour, x.forget(hour), 0);
            for (int i = 0; i < 401; i++) {
                x.take(4 * hour, i % 4, i / 4 % 4, -100);
            }
            Checks.due("400 in hour " + hour, x.forget(hour), 400);
            Checks.due("events() after it", x.events(), 0);
        }
        Checks.due("400 of one sort", Edge.fullOfEvents(1, 0).forget(0), 400);
    }

    private static void badHour() {
        Checks.sentence("Promise 4", "BAD when hour is not 0 .. 15");
        RollupStore x = Edge.some();
        for (int hour : Edge.outside(0, 15)) {
            Checks.due("forget(" + hour + ")", x.forget(hour), Edge.BAD);
        }
        Edge.alike("after bad hours", x, Edge.some());
        Checks.due("forget(-1) of a new object", new RollupStore().forget(-1), Edge.BAD);
        Checks.due("forget(16) of a new object", new RollupStore().forget(16), Edge.BAD);
        Checks.due("forget(0)", Edge.some().forget(0), 2);
        Checks.due("forget(15)", Edge.some().forget(15), 2);
        RollupStore full = Edge.fullOfEvents(40, 4);
        Checks.due("forget(16) of a full one", full.forget(16), Edge.BAD);
        Checks.due("forget(-1) of a full one", full.forget(-1), Edge.BAD);
        Edge.alike("after bad hours, full", full, Edge.fullOfEvents(40, 4));
    }
}
