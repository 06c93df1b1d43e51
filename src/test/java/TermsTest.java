/** What the document says outside of its promises, sentence by sentence from its first line. */
final class TermsTest {
    private static final int NONE = DraftCommon.NONE;
    private static final int FIRST_FREE_DAY = 13;

    private TermsTest() {
    }

    static void run() {
        whatItIs();
        theDraftAndCopies();
        merging();
        reviewsAndIssues();
        commentsAndVersions();
        exceptions();
    }

    private static void whatItIs() {
        anObjectIsUsedFor512Calls();
        objectsHaveNothingInCommon();
    }

    private static void theDraftAndCopies() {
        writersAre0To5();
        wordsAreNumberedAsTheyAreTyped();
        wordsAreAtMost300();
        aWordHasTheWriterWhoHasTypedIt();
        deletedWordsKeepTheirPlacesInTheRow();
        aPlaceIsToldByTheWordsAhead();
        copiesAndChangesAreOfTheirWriterAlone();
        typingKeepsTheAnchorOfThen();
        deletingTakesOutOfTheCopyAlone();
    }

    private static void merging() {
        changesAreDoneInTheirOrderThenThereAreNone();
        wordsComeRightBehindTheirAnchor();
        anchorsOfRefusedAnchorsTakeTheirPlace();
        wordsAreRefusedBetweenWordsOfOneReview();
        wordsAreNotRefusedElsewhere();
        deletingIsDoneOnceAndRefusedIfFrozen();
    }

    private static void reviewsAndIssues() {
        reviewersHaveARateThatIs1AtFirst();
        reviewsAreNumberedAtMost30();
        anOrderedReviewFreezesAndHasItsPay();
        aFinishedReviewIsPaidAndWaits();
        aCancelledReviewFreezesNothing();
        daysAndIssuesAreNumbered();
        issuesArePrintedOnTheirDay();
        reviewsAreTakenByUrgencyThenAsTheyWereFinished();
        theFirstWithoutRoomEndsThat();
        aTakenReviewIsPrintedAndItsWordsArePaid();
    }

    private static void commentsAndVersions() {
        commentsAreNumberedAtMost40();
        commentsAreTiedToTheirFirstAndLastWord();
        commentsHaveBothEndsIfTheyAreThere();
        commentsHaveNoSpanWithoutWords();
        versionsAreNumberedAtMost20();
        versionsKeepWhichWordsAreInTheText();
    }

    private static void exceptions() {
        whatThereIsNotIsNoPlace();
        whatIsOutOfRangeIsNoArgument();
        theFirstOfTheListIsThrown();
        constantsAreTheAnswers();
    }

    // ---- what it is

    private static void anObjectIsUsedFor512Calls() {
        Play x = Play.withWords("an object is used for at most 512 calls", 300);
        for (int i = 0; i < 30; i++) {
            x.due(i, "order", i % 4, 10 * i, 10 * i + 9);
        }
        for (int i = 0; i < 30; i++) {
            x.due(10 * (i / 4 + 1), "finish", i, i % 10);
        }
        for (int i = 0; i < 12; i++) {
            x.due(i, "addIssue", i + 1, 20);
        }
        for (int i = 0; i < 20; i++) {
            x.due(i, "keep");
        }
        for (int i = 0; i < 40; i++) {
            x.due(i, "comment", i, 299 - i);
        }
        x.due(240, "pass", 12).due(1200, "royalties", 0).due(20, "printed", 11).due(20, "waiting", 5);
        for (int i = 0; i < 73; i++) {
            x.due(i, "delete", 0, 0);
        }
        x.due(20, "merge", 0).due(247, "length");
    }

    private static void objectsHaveNothingInCommon() {
        Play x = Play.withWords("objects have nothing in common", 3);
        Play y = Play.begin("objects have nothing in common").due(0, "length").due(0, "copy", 0).noPlace("word", 0);
        x.due(0, "order", 0, 0, 2).due(1, "setRate", 0, 9).due(3, "finish", 0, 5).due(0, "addIssue", 2, 3);
        y.due(1, "setRate", 0, 1).due(0, "earned", 0).noPlace("stateOf", 0).due(NONE, "waiting", 0);
        x.due(3, "pass", 2).due(0, "keep").due(0, "comment", 0, 2).due(15, "royalties", 0);
        y.due(0, "today").noPlace("printed", 0).noPlace("compare", 0, 0).noPlace("span", 0).due(0, "royalties", 0);
        y.due(0, "type", 4, 0, 5).due(0, "merge", 4).due(4005, "word", 0);
        x.due(0, "word", 0).textIs("0 1 2").due(0, "share", 4);
    }

    // ---- the draft and copies

    private static void writersAre0To5() {
        Play x = Play.begin("Writers are 0 to 5");
        for (int writer = 0; writer < 6; writer++) {
            x.due(writer, "type", writer, 0, 7).due(1, "changes", writer).due(0, "merge", writer);
            x.due(1, "share", writer).due(1, "shareAnew", writer).due(writer + 1, "copy", writer);
            x.due(writer, "copyAt", writer, 0).due(0, "royalties", writer);
        }
        x.noPlaceFrom(6, 0, "type", 0, 0, 7).noPlaceFrom(6, 0, "delete", 0, 0).noPlaceFrom(6, 0, "merge", 0);
        x.noPlaceFrom(6, 0, "copy", 0).noPlaceFrom(6, 0, "copyAt", 0, 0).noPlaceFrom(6, 0, "changes", 0);
        x.noPlaceFrom(6, 0, "share", 0).noPlaceFrom(6, 0, "shareAnew", 0).noPlaceFrom(6, 0, "royalties", 0);
        x.textIs("5 4 3 2 1 0");
    }

    private static void wordsAreNumberedAsTheyAreTyped() {
        Play x = Play.begin("Words are numbered from 0 in the order in which they are typed").noPlace("word", 0);
        x.due(0, "type", 3, 0, 10).due(1, "type", 0, 0, 11).due(2, "type", 3, 0, 12).due(3, "type", 5, 0, 13);
        x.due(0, "merge", 5).due(0, "merge", 0).due(0, "merge", 3).textIs("2 0 1 3");
        x.due(3010, "word", 0).due(11, "word", 1).due(3012, "word", 2).due(5013, "word", 3).noPlace("word", 4);
    }

    private static void wordsAreAtMost300() {
        Play x = Play.begin("at most 300");
        for (int i = 0; i < 300; i++) {
            x.due(i, "type", i % 6, 0, i);
        }
        for (int writer = 0; writer < 6; writer++) {
            x.noState("type", writer, 50, 0).due(50, "changes", writer).due(0, "merge", writer);
        }
        x.due(0, "merge", 2).due(0, "delete", 2, 299).due(0, "merge", 2).due(299, "length");
        x.due(5299, "word", 299).noPlace("word", 300).noState("type", 2, 0, 0);
    }

    private static void aWordHasTheWriterWhoHasTypedIt() {
        Play x = Play.begin("a word is a number from 0 to 999, and has a writer, who has typed it");
        x.due(0, "type", 4, 0, 0).due(1, "type", 4, 1, 999).noArgumentOutside(0, 999, 2, "type", 4, 2, 0);
        x.due(4000, "word", 0).due(4999, "word", 1).due(0, "merge", 4).due(0, "merge", 2).due(0, "delete", 2, 0);
        x.due(0, "merge", 2).due(4000, "word", 0).due(4999, "word", 1).due(1, "share", 4).due(0, "share", 2);
    }

    private static void deletedWordsKeepTheirPlacesInTheRow() {
        Play x = Play.withWords("deleted ones keep their places in the row", 5).due(0, "merge", 1);
        x.due(1, "delete", 0, 1).due(2, "delete", 0, 1).due(3, "delete", 0, 1).due(0, "merge", 0).textIs("0 4");
        x.due(5, "type", 1, 4, 7).due(6, "type", 1, 2, 7).due(7, "type", 1, 1, 7).copyIs(1, "0 7 1 6 2 3 5 4");
        x.due(0, "merge", 1).textIs("0 7 6 5 4");
    }

    private static void aPlaceIsToldByTheWordsAhead() {
        Play x = Play.withWords("a place is told by how many words of the text are ahead", 4);
        x.due(0, "delete", 0, 0).due(2, "delete", 0, 1).due(0, "merge", 0).textIs("1 3").noPlaceFrom(2, 0, "wordAt", 0);
        x.due(NONE, "placeOf", 0).due(0, "placeOf", 1).due(NONE, "placeOf", 2).due(1, "placeOf", 3);
        x.noPlaceFrom(4, 0, "placeOf", 0);
    }

    private static void copiesAndChangesAreOfTheirWriterAlone() {
        Play x = Play.begin("Each writer has a copy, empty at first, and changes, none at first");
        for (int writer = 0; writer < 6; writer++) {
            x.due(0, "copy", writer).due(0, "changes", writer).noPlace("copyAt", writer, 0);
        }
        x.due(0, "type", 0, 0, 7).due(1, "type", 0, 1, 7).due(2, "type", 1, 0, 7).copyIs(0, "0 1").copyIs(1, "2");
        x.due(2, "changes", 0).due(1, "changes", 1).due(0, "changes", 2).due(0, "copy", 2).due(0, "length");
        x.due(0, "merge", 0).textIs("0 1").copyIs(1, "2").due(0, "copy", 2).due(1, "changes", 1).due(0, "changes", 0);
        x.due(0, "merge", 1).textIs("2 0 1").copyIs(0, "0 1").copyIs(1, "2 0 1").due(0, "merge", 2).copyIs(2, "2 0 1");
    }

    private static void typingKeepsTheAnchorOfThen() {
        Play x = Play.withWords("the change keeps which word of the copy is right ahead of it", 2).due(0, "merge", 1);
        x.due(2, "type", 1, 1, 7).due(3, "type", 1, 1, 7).due(4, "type", 1, 3, 7).due(5, "type", 1, 0, 7);
        x.copyIs(1, "5 0 3 2 4 1").due(6, "type", 0, 1, 7).due(7, "type", 0, 0, 7).due(0, "merge", 0).textIs("7 0 6 1");
        x.due(0, "merge", 1).textIs("5 7 0 3 2 4 6 1").copyIs(1, "5 7 0 3 2 4 6 1").copyIs(0, "7 0 6 1");

        Play y = Play.withWords("or that none is, though a word was ahead before", 1).due(0, "delete", 0, 0);
        y.due(1, "type", 0, 0, 7).due(0, "merge", 0).textIs("1").due(0, "merge", 1).due(2, "type", 1, 0, 7);
        y.due(0, "merge", 1).textIs("2 1");
    }

    private static void deletingTakesOutOfTheCopyAlone() {
        Play x = Play.withWords("To delete a word of the copy is to take it out there", 3).due(0, "merge", 1);
        x.due(1, "delete", 1, 1).copyIs(1, "0 2").textIs("0 1 2").copyIs(0, "0 1 2").due(2, "delete", 1, 1);
        x.copyIs(1, "0").noPlaceFrom(1, 1, "delete", 1, 0).due(2, "changes", 1).due(3, "length").due(1, "placeOf", 1);
        x.due(0, "merge", 1).textIs("0").copyIs(0, "0 1 2").due(NONE, "placeOf", 1);
    }

    // ---- a merge

    private static void changesAreDoneInTheirOrderThenThereAreNone() {
        Play x = Play.begin("the changes are done in their order; then there are none, and the copy is the text");
        x.due(0, "type", 2, 0, 7).due(1, "type", 2, 0, 7).due(0, "delete", 2, 1).due(2, "type", 2, 1, 7);
        x.due(1, "delete", 2, 0).due(5, "changes", 2).copyIs(2, "2").due(0, "merge", 2).due(0, "changes", 2);
        x.textIs("2").copyIs(2, "2").due(0, "merge", 2).textIs("2").due(1, "share", 2).due(1, "shareAnew", 2);
        x.due(3, "type", 3, 0, 7).due(0, "merge", 3).copyIs(2, "2").due(0, "merge", 2).copyIs(2, "3 2");
    }

    private static void wordsComeRightBehindTheirAnchor() {
        Play x = Play.withWords("comes into the row right behind its anchor; at the very beginning, if it has none", 3);
        x.due(0, "merge", 1).due(3, "type", 0, 0, 7).due(4, "type", 0, 2, 7).due(5, "type", 0, 5, 7);
        x.due(0, "merge", 0).textIs("3 0 4 1 2 5").due(6, "type", 1, 0, 7).due(7, "type", 1, 2, 7);
        x.due(8, "type", 1, 5, 7).due(0, "merge", 1).textIs("6 3 0 7 4 1 2 8 5");
    }

    private static void anchorsOfRefusedAnchorsTakeTheirPlace() {
        Play x = Play.withWords("the anchor of that takes its place, and so on", 2).due(0, "merge", 1);
        x.due(0, "order", 0, 0, 1).due(2, "type", 1, 1, 7).due(3, "type", 1, 2, 7).due(4, "type", 1, 3, 7);
        x.due(5, "type", 1, 0, 7).copyIs(1, "5 0 2 3 4 1").due(3, "merge", 1).textIs("5 0 1").copyIs(1, "5 0 1");
    }

    private static void wordsAreRefusedBetweenWordsOfOneReview() {
        Play x = Play.withWords("refused between two words of the text that are frozen by the same review", 6);
        x.due(0, "merge", 1).due(2, "delete", 0, 2).due(3, "delete", 0, 2).due(0, "merge", 0).textIs("0 1 4 5");
        x.due(0, "order", 3, 1, 2).due(6, "type", 1, 2, 7).due(1, "merge", 1).textIs("0 1 4 5");
        x.due(7, "type", 1, 2, 7).due(8, "type", 1, 1, 7).due(1, "merge", 1).textIs("0 8 1 4 5");
        x.due(2, "finish", 0, 0).due(9, "type", 1, 3, 7).due(1, "merge", 1).textIs("0 8 1 4 5");
        x.due(0, "addIssue", 1, 2).due(2, "pass", 1).due(10, "type", 1, 3, 7).due(0, "merge", 1);
        x.textIs("0 8 1 10 4 5");
    }

    private static void wordsAreNotRefusedElsewhere() {
        Play x = Play.withWords("not refused where one side is not frozen, or by another review", 6).due(0, "merge", 1);
        x.due(0, "order", 0, 1, 2).due(1, "order", 0, 3, 3).due(6, "type", 1, 1, 7).due(7, "type", 1, 4, 7);
        x.due(8, "type", 1, 6, 7).due(0, "merge", 1).textIs("0 6 1 2 7 3 8 4 5");
    }

    private static void deletingIsDoneOnceAndRefusedIfFrozen() {
        Play x = Play.withWords("deleted, unless it is deleted already; refused if it is frozen", 4).due(0, "merge", 1);
        x.due(0, "merge", 2).due(0, "delete", 0, 0).due(0, "merge", 0).due(0, "order", 1, 0, 1).textIs("1 2 3");
        x.due(0, "delete", 1, 0).due(1, "delete", 1, 0).due(3, "delete", 1, 1).due(4, "type", 1, 1, 7);
        x.due(4, "delete", 1, 1).due(1, "merge", 1).textIs("1 2").copyIs(1, "1 2").due(0, "delete", 2, 0);
        x.due(3, "delete", 2, 2).due(0, "merge", 2).textIs("1 2").due(2, "share", 0).due(2, "shareAnew", 0);
        x.due(0, "share", 1).due(0, "shareAnew", 1);

        Play y = Play.withWords("or did not come into the draft", 2).due(0, "merge", 1).due(0, "order", 1, 0, 1);
        y.due(2, "type", 1, 1, 7).due(2, "delete", 1, 1).due(2, "changes", 1).due(1, "merge", 1).textIs("0 1");
        y.due(NONE, "placeOf", 2).due(1007, "word", 2).due(0, "shareAnew", 1);
    }

    // ---- reviews and issues

    private static void reviewersHaveARateThatIs1AtFirst() {
        Play x = Play.withWords("Reviewers are 0 to 3, each with a rate for a word, 1 at first", 8);
        for (int reviewer = 0; reviewer < 4; reviewer++) {
            x.due(reviewer, "order", reviewer, 2 * reviewer, 2 * reviewer + 1).due(0, "earned", reviewer);
            x.due(1, "setRate", reviewer, 10 + reviewer).due(2, "finish", reviewer, 0).due(2, "earned", reviewer);
            x.due(10 + reviewer, "setRate", reviewer, 0);
        }
        x.noPlaceFrom(4, 0, "setRate", 0, 1).noPlaceFrom(4, 0, "order", 0, 0, 0).noPlaceFrom(4, 0, "earned", 0);
    }

    private static void reviewsAreNumberedAtMost30() {
        Play x = Play.withWords("Reviews are numbered from 0, at most 30", 32);
        for (int i = 0; i < 30; i++) {
            x.noPlace("stateOf", i).due(i, "order", 3, i, i);
        }
        x.noState("order", 0, 30, 31).due(1, "cancel", 29).due(1, "finish", 0, 0).noState("order", 0, 29, 29);
        x.noPlace("stateOf", 30);
    }

    private static void anOrderedReviewFreezesAndHasItsPay() {
        Play x = Play.withWords("freezes its words; its pay is the number of these times the rate of then", 4);
        x.due(1, "setRate", 2, 7).due(0, "order", 2, 1, 2).due(DraftCommon.ORDERED, "stateOf", 0);
        x.due(NONE, "frozenBy", 0).due(0, "frozenBy", 1).due(0, "frozenBy", 2).due(NONE, "frozenBy", 3);
        x.noState("order", 0, 0, 1).noState("order", 0, 2, 3).due(7, "setRate", 2, 9).due(1, "order", 2, 3, 3);
        x.due(0, "earned", 2).due(14, "finish", 0, 1).due(23, "finish", 1, 1).due(0, "earned", 0);
    }

    private static void aFinishedReviewIsPaidAndWaits() {
        Play x = Play.withWords("DONE, the reviewer has earned its pay, and it waits to be printed", 2);
        x.due(0, "order", 1, 0, 1).due(NONE, "waiting", 0).due(2, "finish", 0, 3).due(DraftCommon.DONE, "stateOf", 0);
        x.due(0, "waiting", 0).due(NONE, "waiting", 1).due(2, "earned", 1).due(0, "frozenBy", 1).due(0, "royalties", 0);
        x.noState("finish", 0, 3).noState("cancel", 0);
    }

    private static void aCancelledReviewFreezesNothing() {
        Play x = Play.withWords("CANCELLED, and its words are not frozen any more", 4);
        x.due(0, "order", 1, 0, 1).due(1, "order", 1, 2, 3).due(2, "cancel", 0);
        x.due(DraftCommon.CANCELLED, "stateOf", 0).due(DraftCommon.ORDERED, "stateOf", 1);
        x.due(NONE, "frozenBy", 0).due(NONE, "frozenBy", 1).due(1, "frozenBy", 2).due(NONE, "waiting", 0);
        x.noState("finish", 0, 3).noState("cancel", 0).due(0, "earned", 1).due(2, "order", 1, 0, 1);
    }

    private static void daysAndIssuesAreNumbered() {
        Play x = Play.begin("Issues are numbered from 0, at most 12; today is the day 0 at first").due(0, "today");
        for (int i = 0; i < 12; i++) {
            x.noPlace("printed", i).due(i, "addIssue", 12 - i, 1 + i).due(NONE, "printed", i);
        }
        x.noState("addIssue", FIRST_FREE_DAY, 1).due(0, "pass", 12).due(12, "today");
        x.noState("addIssue", FIRST_FREE_DAY, 1).due(0, "printed", 0).due(0, "printed", 11).noPlace("printed", 12);
    }

    private static void issuesArePrintedOnTheirDay() {
        Play x = Play.withWords("When today comes to the day of an issue, it is printed", 2);
        x.due(0, "addIssue", 3, 9).due(1, "addIssue", 2, 1).due(0, "order", 0, 0, 1).due(2, "finish", 0, 0);
        x.due(0, "pass", 1).due(NONE, "printed", 1).due(0, "pass", 1).due(0, "printed", 1).due(NONE, "printed", 0);
        x.due(2, "pass", 1).due(2, "printed", 0).due(0, "printed", 1).due(3, "today").due(0, "pass", 100);
    }

    private static void reviewsAreTakenByUrgencyThenAsTheyWereFinished() {
        Play x = Play.withWords("a greater urgency first, with the same those that were finished earlier", 10);
        for (int i = 0; i < 5; i++) {
            x.due(i, "order", i % 4, 2 * i, 2 * i + 1);
        }
        x.due(2, "finish", 3, 4).due(2, "finish", 1, 4).due(2, "finish", 2, 9).due(2, "finish", 0, 0);
        x.due(4, "finish", 4, 4).due(2, "waiting", 0).due(3, "waiting", 1).due(1, "waiting", 2);
        x.due(4, "waiting", 3).due(0, "waiting", 4).due(NONE, "waiting", 5).due(0, "addIssue", 1, 5);
        x.due(4, "pass", 1).due(DraftCommon.PRINTED, "stateOf", 2).due(DraftCommon.PRINTED, "stateOf", 3);
        x.due(1, "waiting", 0).due(4, "waiting", 1).due(0, "waiting", 2).due(NONE, "waiting", 3);
    }

    private static void theFirstWithoutRoomEndsThat() {
        Play x = Play.withWords("as long as its words have room in what is left; the first that has none ends that", 9);
        x.due(0, "order", 0, 0, 3).due(1, "order", 1, 4, 6).due(2, "order", 2, 7, 7).due(3, "order", 3, 8, 8);
        x.due(4, "finish", 0, 9).due(3, "finish", 1, 8).due(1, "finish", 2, 7).due(1, "finish", 3, 6);
        x.due(0, "addIssue", 1, 6).due(1, "addIssue", 2, 4).due(2, "addIssue", 3, 1).due(4, "pass", 1);
        x.due(1, "waiting", 0).due(4, "pass", 1).due(3, "waiting", 0).due(1, "pass", 1).due(NONE, "waiting", 0);
        x.due(4, "printed", 0).due(4, "printed", 1).due(1, "printed", 2).due(45, "royalties", 0);
    }

    private static void aTakenReviewIsPrintedAndItsWordsArePaid() {
        Play x = Play.withWords("printed once more for its writer, who gets 5 for it", 2).due(0, "merge", 4);
        x.due(2, "type", 4, 1, 7).due(0, "merge", 4).textIs("0 2 1").due(0, "order", 0, 0, 1).due(1, "order", 0, 2, 2);
        x.due(2, "finish", 0, 0).due(0, "addIssue", 1, 9).due(1, "addIssue", 2, 9).due(2, "pass", 1);
        x.due(DraftCommon.PRINTED, "stateOf", 0).due(DraftCommon.ORDERED, "stateOf", 1).due(NONE, "frozenBy", 0);
        x.due(NONE, "frozenBy", 2).due(1, "frozenBy", 1).due(5, "royalties", 0).due(5, "royalties", 4);
        x.noState("cancel", 0).noState("finish", 0, 0).due(1, "cancel", 1).due(2, "order", 1, 0, 2);
        x.due(3, "finish", 2, 0).due(3, "pass", 1).due(15, "royalties", 0).due(10, "royalties", 4);
    }

    // ---- comments and versions

    private static void commentsAreNumberedAtMost40() {
        Play x = Play.withWords("Comments are numbered from 0, at most 40", 1);
        for (int i = 0; i < 40; i++) {
            x.noPlace("span", i).due(i, "comment", 0, 0).due(1, "span", i);
        }
        x.noState("comment", 0, 0).noPlace("span", 40).due(0, "delete", 0, 0).due(0, "merge", 0).due(NONE, "span", 39);
    }

    private static void commentsAreTiedToTheirFirstAndLastWord() {
        Play x = Play.withWords("all words of the text that are in the row from the one to the other", 5);
        x.due(0, "comment", 1, 3).due(1003, "span", 0).due(5, "type", 0, 0, 7).due(6, "type", 0, 3, 7);
        x.due(7, "type", 0, 6, 7).due(0, "merge", 0).textIs("5 0 1 6 2 3 7 4").due(2004, "span", 0);
        x.due(1, "delete", 0, 2).due(3, "delete", 0, 4).due(0, "merge", 0).textIs("5 0 6 2 7 4").due(2002, "span", 0);
        x.due(5, "delete", 0, 0).due(6, "delete", 0, 1).due(0, "merge", 0).textIs("0 2 7 4").due(1001, "span", 0);
    }

    private static void commentsHaveBothEndsIfTheyAreThere() {
        Play x = Play.withWords("both included, if they are there", 4).due(0, "comment", 1, 3).due(1, "comment", 0, 2);
        x.due(1003, "span", 0).due(3, "span", 1).due(0, "delete", 0, 0).due(1, "delete", 0, 0).due(0, "merge", 0);
        x.due(2, "span", 0).due(1, "span", 1).due(2, "delete", 0, 0).due(0, "merge", 0).textIs("3");
        x.due(1, "span", 0).due(NONE, "span", 1);
    }

    private static void commentsHaveNoSpanWithoutWords() {
        Play x = Play.withWords("It has none if there are no such words", 3).due(0, "merge", 1).due(0, "comment", 1, 1);
        x.due(1, "comment", 0, 1).due(1, "delete", 0, 1).due(0, "delete", 0, 0).due(0, "merge", 0).textIs("2");
        x.due(NONE, "span", 0).due(NONE, "span", 1).due(3, "type", 1, 1, 7).due(0, "merge", 1).textIs("3 2");
        x.due(NONE, "span", 0).due(1, "span", 1);
    }

    private static void versionsAreNumberedAtMost20() {
        Play x = Play.begin("Versions are numbered from 0, at most 20");
        for (int i = 0; i < 20; i++) {
            x.noPlace("compare", i, 0).due(i, "keep").due(0, "compare", i, 0);
        }
        x.noState("keep").noPlace("compare", 20, 0).noPlace("compare", 0, 20);
    }

    private static void versionsKeepWhichWordsAreInTheText() {
        Play x = Play.begin("a version keeps which words are in the text").due(0, "type", 0, 0, 7).due(0, "keep");
        x.due(0, "merge", 0).due(1, "keep").due(1, "type", 0, 0, 7).due(2, "type", 0, 0, 7).due(0, "delete", 0, 2);
        x.due(2, "keep").due(0, "merge", 0).due(3, "keep").due(0, "compare", 1, 2).due(1000, "compare", 0, 1);
        x.due(1, "compare", 1, 0).due(2001, "compare", 2, 3).due(1002, "compare", 3, 2).due(2000, "compare", 0, 3);
    }

    // ---- exceptions and constants

    private static void whatThereIsNotIsNoPlace() {
        Play x = Play.withWords("no such writer, reviewer, place, review, issue, comment, version or word", 2);
        x.due(0, "order", 0, 0, 0).due(0, "addIssue", 1, 1).due(0, "comment", 0, 0).due(0, "keep");
        x.noPlaceFrom(3, 1, "type", 0, 0, 0).noPlaceFrom(2, 1, "delete", 0, 0).noPlaceFrom(2, 1, "copyAt", 0, 0);
        x.noPlaceFrom(2, 0, "wordAt", 0).noPlaceFrom(2, 0, "word", 0).noPlaceFrom(2, 0, "placeOf", 0);
        x.noPlaceFrom(2, 0, "frozenBy", 0).noPlaceFrom(2, 1, "order", 0, 0, 1).noPlaceFrom(2, 2, "order", 0, 1, 0);
        x.noPlaceFrom(1, 0, "finish", 0, 0).noPlaceFrom(1, 0, "cancel", 0).noPlaceFrom(1, 0, "stateOf", 0);
        x.noPlaceFrom(1, 0, "printed", 0).noPlaceFrom(1, 0, "span", 0).noPlaceFrom(2, 0, "comment", 0, 1);
        x.noPlaceFrom(2, 1, "comment", 1, 0).noPlaceFrom(1, 0, "compare", 0, 0).noPlaceFrom(1, 1, "compare", 0, 0);
    }

    private static void whatIsOutOfRangeIsNoArgument() {
        Play x = Play.withWords("an IllegalArgumentException if another argument is out of its range", 2);
        x.due(0, "order", 0, 0, 0).noArgumentOutside(0, 999, 2, "type", 0, 0, 0);
        x.noArgumentOutside(0, 100, 1, "setRate", 0, 0).noArgumentOutside(0, 9, 1, "finish", 0, 0);
        x.noArgumentOutside(1, 1000, 0, "addIssue", 1, 1).noArgumentOutside(1, 200, 1, "addIssue", 1, 1);
        x.noArgument("waiting", -1).noArgument("waiting", Integer.MIN_VALUE).noArgumentOutside(1, 100, 0, "pass", 1);
        x.due(1, "setRate", 0, 100).due(1, "finish", 0, 9).due(0, "addIssue", 1000, 200).due(0, "today");
        for (int i = 0; i < 9; i++) {
            x.due(0, "pass", 100);
        }
        x.due(0, "pass", 99).noState("pass", 2).due(NONE, "printed", 0).due(1, "pass", 1).due(1000, "today");
        x.noState("pass", 1).noArgument("pass", 0).noArgument("addIssue", 1001, 1);
    }

    private static void theFirstOfTheListIsThrown() {
        Play x = Play.withWords("the one that is listed first is thrown", 2).due(0, "order", 0, 0, 0);
        x.noPlace("type", 6, 0, 1000).noPlace("type", 0, 3, 1000).noArgument("type", 0, 2, 1000);
        x.noPlace("setRate", 4, 101).noArgument("setRate", 3, 101).noPlace("compare", 0, 0);
        x.noPlace("order", 4, 1, 0).noPlace("order", 0, 2, 0).noPlace("order", 0, 1, -1).noArgument("order", 0, 1, 0);
        x.noState("order", 0, 0, 1).due(1, "finish", 0, 0).noPlace("finish", 1, 10).noArgument("finish", 0, 10);
        x.noState("finish", 0, 9).noPlace("cancel", 1).noState("cancel", 0).due(0, "addIssue", 1, 1);
        x.noArgument("addIssue", 1, 0).noArgument("addIssue", 0, 1).noState("addIssue", 1, 1);
        x.noPlace("comment", 2, 0).noPlace("comment", 1, -1).noArgument("comment", 1, 0).noArgument("pass", 101);
        x.due(1, "pass", 1).noArgument("addIssue", 1, 1);
    }

    private static void constantsAreTheAnswers() {
        Play x = Play.withWords("ORDERED = 0, DONE = 1, CANCELLED = 2, PRINTED = 3, NONE = -1", 3);
        x.due(0, "order", 0, 0, 0).due(1, "order", 0, 1, 1).due(2, "order", 0, 2, 2).due(0, "stateOf", 0);
        x.due(1, "finish", 0, 0).due(1, "stateOf", 0).due(1, "cancel", 1).due(2, "stateOf", 1);
        x.due(0, "addIssue", 1, 1).due(-1, "printed", 0).due(1, "pass", 1).due(3, "stateOf", 0).due(0, "stateOf", 2);
        x.due(-1, "frozenBy", 0).due(-1, "waiting", 0).due(0, "delete", 0, 0).due(0, "merge", 0).due(-1, "placeOf", 0);
    }
}
