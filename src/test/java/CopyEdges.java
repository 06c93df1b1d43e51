/** Promises 1 to 7: each sentence that names a boundary case has a test of its own. */
final class CopyEdges {
    private static final int NONE = DraftCommon.NONE;

    private CopyEdges() {
    }

    static void run() {
        newObjectIsOnTheDayZero();
        newObjectHasAnEmptyDraft();
        newObjectHasNothingOfAnyNumber();
        newObjectHasAllItsRoom();
        typeTakesWriters0To5();
        typeTakesPlacesOfTheCopy();
        typeTakesPlacesOfTheCopyNotOfTheText();
        typeTakesWords0To999();
        typeTakes300Words();
        typeCountsWordsThatAreNotInTheText();
        typeThrowsTheFirstOfItsExceptions();
        typeRefusedChangesNothing();
        deleteTakesWriters0To5();
        deleteTakesPlacesOfTheCopy();
        deleteTakesPlacesOfTheCopyNotOfTheText();
        deleteRefusedChangesNothing();
        mergeTakesWriters0To5();
        mergeOfNoChanges();
        mergeOfAsManyChangesAsThereCanBe();
        mergeLeavesNoChangesBehindRefusals();
        copyTakesWriters0To5();
        copyOfNoneAndOfAll();
        copyAtTakesWritersAndPlaces();
        copyAtOfAnEmptyAndOfAFullCopy();
        changesTakesWriters0To5();
        changesOfNoneAndOfAll();
    }

    // ---- 1: a new object

    private static void newObjectIsOnTheDayZero() {
        Play.begin("1: the day 0").due(0, "today").noArgument("addIssue", 0, 1).due(0, "addIssue", 1, 1)
                .due(0, "today");
    }

    private static void newObjectHasAnEmptyDraft() {
        Play x = Play.begin("1: an empty draft").due(0, "length").noPlace("wordAt", 0);
        for (int writer = 0; writer < 6; writer++) {
            x.due(0, "copy", writer).due(0, "changes", writer).noPlace("copyAt", writer, 0);
            x.due(0, "share", writer).due(0, "shareAnew", writer).due(0, "royalties", writer);
            x.noPlace("delete", writer, 0).due(0, "merge", writer).due(0, "copy", writer);
        }
        x.noPlace("order", 0, 0, 0).noPlace("comment", 0, 0).due(0, "length");
    }

    private static void newObjectHasNothingOfAnyNumber() {
        Play x = Play.begin("1: nothing of any number");
        x.noPlaceFrom(0, 0, "word", 0).noPlaceFrom(0, 0, "placeOf", 0).noPlaceFrom(0, 0, "frozenBy", 0);
        x.noPlaceFrom(0, 0, "stateOf", 0).noPlaceFrom(0, 0, "cancel", 0).noPlaceFrom(0, 0, "finish", 0, 0);
        x.noPlaceFrom(0, 0, "printed", 0).noPlaceFrom(0, 0, "span", 0);
        x.noPlaceFrom(0, 0, "compare", 0, 0).noPlaceFrom(0, 1, "compare", 0, 0);
        x.due(NONE, "waiting", 0).due(NONE, "waiting", Integer.MAX_VALUE);
        x.due(0, "pass", 100).due(NONE, "waiting", 0);
    }

    private static void newObjectHasAllItsRoom() {
        Play x = Play.begin("1: numbers from 0").due(0, "keep").due(0, "addIssue", 5, 5).due(0, "type", 3, 0, 3);
        x.due(0, "merge", 3).due(0, "comment", 0, 0).due(0, "order", 0, 0, 0);
        for (int reviewer = 0; reviewer < 4; reviewer++) {
            x.due(0, "earned", reviewer).due(1, "setRate", reviewer, 1);
        }
    }

    // ---- 2: type

    private static void typeTakesWriters0To5() {
        Play x = Play.begin("2: writer, 0 to 5");
        x.noPlaceFrom(6, 0, "type", 0, 0, 7).due(0, "type", 0, 0, 7).due(1, "type", 5, 0, 7);
        x.noPlaceFrom(6, 0, "type", 0, 0, 7).due(7, "word", 0).due(5007, "word", 1).noPlace("word", 2);
    }

    private static void typeTakesPlacesOfTheCopy() {
        Play x = Play.begin("2: place, 0 to the number of words of the copy");
        x.noPlaceFrom(1, 1, "type", 2, 0, 7).due(0, "type", 2, 0, 10);
        x.noPlaceFrom(2, 1, "type", 2, 0, 7).due(1, "type", 2, 1, 11).due(2, "type", 2, 0, 12);
        x.noPlaceFrom(4, 1, "type", 2, 0, 7).due(3, "type", 2, 3, 13).due(4, "type", 2, 3, 14);
        x.copyIs(2, "2 0 1 4 3").due(0, "merge", 2).textIs("2 0 1 4 3");
    }

    private static void typeTakesPlacesOfTheCopyNotOfTheText() {
        Play x = Play.withWords("2: place of the copy, not of the text", 3);
        x.noPlace("type", 1, 1, 7).noPlace("type", 1, 3, 7).due(3, "type", 1, 0, 7);
        x.due(4, "type", 0, 3, 7).due(5, "type", 0, 4, 7).noPlace("type", 0, 6, 7).due(6, "type", 0, 5, 7);
        x.due(3, "length");

        Play y = Play.withWords("2: place of a copy that is shorter than the text", 3);
        y.due(2, "delete", 0, 2).due(1, "delete", 0, 1).noPlace("type", 0, 2, 7).noPlace("type", 0, 3, 7);
        y.due(3, "type", 0, 1, 7).copyIs(0, "0 3").due(3, "length");
    }

    private static void typeTakesWords0To999() {
        Play x = Play.begin("2: word, 0 to 999");
        x.noArgumentOutside(0, 999, 2, "type", 1, 0, 7).due(0, "type", 1, 0, 0).due(1, "type", 1, 1, 999);
        x.noArgumentOutside(0, 999, 2, "type", 1, 2, 7).due(1000, "word", 0).due(1999, "word", 1);
        x.due(2, "copy", 1).due(2, "changes", 1).due(2, "type", 1, 2, 7);
    }

    private static void typeTakes300Words() {
        Play x = Play.begin("2: 300 words");
        for (int i = 0; i < 299; i++) {
            x.due(i, "type", i % 6, 0, i);
        }
        x.due(299, "type", 5, 49, 999).noPlace("word", 300).due(5999, "word", 299);
        for (int writer = 0; writer < 6; writer++) {
            x.noState("type", writer, 0, 0).noState("type", writer, 50, 999);
            x.due(50, "copy", writer).due(50, "changes", writer);
        }
        for (int writer = 0; writer < 6; writer++) {
            x.due(0, "merge", writer).noState("type", writer, 0, 0);
        }
        x.due(300, "length").due(300, "copy", 5).noState("type", 5, 300, 0).noPlace("type", 5, 301, 0);
    }

    private static void typeCountsWordsThatAreNotInTheText() {
        Play x = Play.withWords("2: deleted, refused and waiting words are words", 100);
        x.due(0, "merge", 1).due(0, "order", 0, 0, 1);
        for (int i = 0; i < 100; i++) {
            x.due(100 + i, "type", 1, 1, i);
        }
        x.due(100, "merge", 1).due(100, "length").due(2, "cancel", 0);
        for (int i = 0; i < 99; i++) {
            x.due(200 + i, "type", 2, i, i);
        }
        for (int i = 0; i < 50; i++) {
            x.due(i, "delete", 0, 0);
        }
        x.due(0, "merge", 0).due(50, "length").due(299, "type", 0, 50, 1).noState("type", 0, 0, 1);
        x.noState("type", 1, 0, 1).noState("type", 2, 99, 1).due(0, "merge", 0).noState("type", 0, 51, 1);
        x.due(51, "length").due(99, "copy", 2).due(0, "merge", 2).due(150, "length").noState("type", 2, 0, 1);
    }

    private static void typeThrowsTheFirstOfItsExceptions() {
        Play x = Play.begin("2: the first of its exceptions");
        x.noPlace("type", -1, 0, 1000).noPlace("type", 6, 0, -1).noPlace("type", 0, 1, 1000).noPlace("type", 0, -1, -1);
        for (int i = 0; i < 300; i++) {
            x.due(i, "type", 3, i, 0);
        }
        x.noState("type", 0, 0, 0).noState("type", 3, 300, 999);
        x.noPlace("type", 6, 0, 0).noPlace("type", -1, 0, 0).noPlace("type", 3, 301, 0).noPlace("type", 3, -1, 0);
        x.noPlace("type", 0, 1, 0).noPlace("type", 6, 9, 1000).noPlace("type", 3, 301, 1000);
        x.noArgument("type", 3, 300, 1000).noArgument("type", 3, 0, -1).noArgument("type", 0, 0, 1000);
    }

    private static void typeRefusedChangesNothing() {
        Play x = Play.withWords("2: a refused call", 2);
        x.due(2, "type", 0, 1, 7);
        x.noPlace("type", 6, 0, 8).noPlace("type", 0, 4, 8).noPlace("type", 0, -1, 8).noArgument("type", 0, 1, 1000);
        x.copyIs(0, "0 2 1").due(1, "changes", 0).due(3, "type", 0, 2, 9).copyIs(0, "0 2 3 1");
        x.due(2, "changes", 0).due(0, "merge", 0).textIs("0 2 3 1").due(9, "word", 3).noPlace("word", 4);
    }

    // ---- 3: delete

    private static void deleteTakesWriters0To5() {
        Play x = Play.begin("3: writer, 0 to 5");
        x.due(0, "type", 0, 0, 7).due(1, "type", 5, 0, 7).noPlaceFrom(6, 0, "delete", 0, 0);
        x.due(0, "delete", 0, 0).due(1, "delete", 5, 0).noPlaceFrom(6, 0, "delete", 0, 0);
    }

    private static void deleteTakesPlacesOfTheCopy() {
        Play x = Play.withWords("3: a place of the copy", 4);
        x.noPlaceFrom(4, 1, "delete", 0, 0).due(3, "delete", 0, 3).noPlaceFrom(3, 1, "delete", 0, 0);
        x.due(0, "delete", 0, 0).noPlaceFrom(2, 1, "delete", 0, 0).due(2, "delete", 0, 1);
        x.noPlaceFrom(1, 1, "delete", 0, 0).due(1, "delete", 0, 0);
        x.noPlaceFrom(0, 1, "delete", 0, 0).due(0, "copy", 0).due(4, "changes", 0).due(4, "length");
        x.due(0, "merge", 0).due(0, "length").noPlaceFrom(0, 1, "delete", 0, 0);
    }

    private static void deleteTakesPlacesOfTheCopyNotOfTheText() {
        Play x = Play.withWords("3: a place of the copy, not of the text", 2);
        x.noPlaceFrom(0, 1, "delete", 1, 0).due(2, "type", 0, 2, 7).due(3, "type", 0, 3, 7);
        x.noPlace("delete", 0, 4).due(3, "delete", 0, 3).due(2, "delete", 0, 2).noPlace("delete", 0, 2);
        x.due(0, "merge", 1).due(0, "delete", 1, 0).noPlace("delete", 1, 1).due(2, "length").due(1, "copy", 1);
    }

    private static void deleteRefusedChangesNothing() {
        Play x = Play.withWords("3: a refused call", 3);
        x.due(1, "delete", 0, 1).noPlace("delete", 0, 2).noPlace("delete", 0, -1).noPlace("delete", 6, 0);
        x.noPlace("delete", 1, 0).copyIs(0, "0 2").due(1, "changes", 0).due(0, "changes", 1);
        x.due(0, "merge", 0).textIs("0 2").due(2, "shareAnew", 0);
    }

    // ---- 4: merge (what is refused in it: MergeEdges)

    private static void mergeTakesWriters0To5() {
        Play x = Play.begin("4: writer, 0 to 5");
        x.due(0, "type", 0, 0, 7).due(1, "type", 5, 0, 7).noPlaceFrom(6, 0, "merge", 0).due(0, "length");
        x.due(1, "changes", 0).due(1, "changes", 5).due(0, "merge", 5).due(0, "merge", 0).textIs("0 1");
        x.noPlaceFrom(6, 0, "merge", 0).textIs("0 1");
    }

    private static void mergeOfNoChanges() {
        Play x = Play.withWords("4: no changes", 2);
        x.due(0, "merge", 0).textIs("0 1").due(0, "copy", 4).due(0, "merge", 4).copyIs(4, "0 1").textIs("0 1");
        x.due(1, "delete", 0, 1).due(0, "delete", 0, 0).due(0, "merge", 0).due(0, "merge", 0).due(0, "length");
        x.copyIs(4, "0 1").due(0, "merge", 4).copyIs(4, "");
    }

    private static void mergeOfAsManyChangesAsThereCanBe() {
        Play x = Play.begin("4: as many changes as there can be");
        for (int i = 0; i < 300; i++) {
            x.due(i, "type", 5, 0, i);
        }
        for (int i = 0; i < 206; i++) {
            x.due(i, "delete", 5, 299 - i);
        }
        x.due(506, "changes", 5).due(0, "merge", 5).due(0, "changes", 5).due(94, "length").due(299, "wordAt", 0);
        x.due(94, "shareAnew", 5);
    }

    private static void mergeLeavesNoChangesBehindRefusals() {
        Play x = Play.withWords("4: then there are none, and the copy is the text", 3);
        x.due(0, "merge", 1).due(0, "order", 0, 0, 2).due(3, "type", 1, 1, 7).due(0, "delete", 1, 0);
        x.due(4, "type", 1, 3, 7).due(3, "changes", 1).due(2, "merge", 1).due(0, "changes", 1);
        x.copyIs(1, "0 1 2 4").textIs("0 1 2 4").due(3, "cancel", 0).due(0, "merge", 1).textIs("0 1 2 4");
    }

    // ---- 5: copy

    private static void copyTakesWriters0To5() {
        Play x = Play.begin("5: writer, 0 to 5").due(0, "type", 0, 0, 7).due(1, "type", 5, 0, 7);
        x.due(1, "copy", 0).due(0, "copy", 1).due(0, "copy", 4).due(1, "copy", 5).noPlaceFrom(6, 0, "copy", 0);
    }

    private static void copyOfNoneAndOfAll() {
        Play x = Play.begin("5: none, and all").due(0, "copy", 3);
        for (int i = 0; i < 300; i++) {
            x.due(i, "type", 3, i, 7);
        }
        x.due(300, "copy", 3).due(0, "merge", 3).due(300, "copy", 3).due(0, "copy", 2).due(0, "merge", 2);
        x.due(300, "copy", 2).due(299, "delete", 2, 299).due(299, "copy", 2).due(300, "copy", 3);
    }

    // ---- 6: copyAt

    private static void copyAtTakesWritersAndPlaces() {
        Play x = Play.withWords("6: writer, 0 to 5, and a place of the copy", 2).due(2, "type", 5, 0, 7);
        x.due(0, "copyAt", 0, 0).due(1, "copyAt", 0, 1).due(2, "copyAt", 5, 0).noPlaceFrom(6, 0, "copyAt", 0, 0);
        x.noPlaceFrom(2, 1, "copyAt", 0, 0).noPlaceFrom(1, 1, "copyAt", 5, 0).noPlaceFrom(0, 1, "copyAt", 1, 0);
        x.due(3, "type", 0, 2, 7).due(3, "copyAt", 0, 2).noPlace("copyAt", 0, 3).due(0, "delete", 0, 0);
        x.due(3, "copyAt", 0, 1).noPlace("copyAt", 0, 2);
    }

    private static void copyAtOfAnEmptyAndOfAFullCopy() {
        Play x = Play.begin("6: an empty copy, and a full one").noPlaceFrom(0, 1, "copyAt", 4, 0);
        for (int i = 0; i < 300; i++) {
            x.due(i, "type", 4, 0, 7);
        }
        x.due(299, "copyAt", 4, 0).due(0, "copyAt", 4, 299).noPlaceFrom(300, 1, "copyAt", 4, 0);
        x.due(0, "delete", 4, 299).due(1, "copyAt", 4, 298).noPlaceFrom(299, 1, "copyAt", 4, 0);
    }

    // ---- 7: changes

    private static void changesTakesWriters0To5() {
        Play x = Play.begin("7: writer, 0 to 5").due(0, "type", 0, 0, 7).due(1, "type", 5, 0, 7);
        x.due(1, "changes", 0).due(0, "changes", 1).due(0, "changes", 4).due(1, "changes", 5);
        x.noPlaceFrom(6, 0, "changes", 0);
    }

    private static void changesOfNoneAndOfAll() {
        Play x = Play.begin("7: none, and many").due(0, "changes", 2);
        for (int i = 0; i < 240; i++) {
            x.due(i, "type", 2, 0, 7).due(i, "delete", 2, 0);
        }
        x.due(480, "changes", 2).due(0, "copy", 2).due(0, "changes", 1).due(0, "merge", 1).due(480, "changes", 2);
        x.due(0, "merge", 2).due(0, "changes", 2).due(0, "length").due(240, "type", 2, 0, 7).due(1, "changes", 2);
    }
}
