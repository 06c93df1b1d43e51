/**
 * A draft that several writers share: copies that are changed apart and merged word by word,
 * comments, reviews that freeze their words, versions, issues and royalties.
 *
 * Everything is held in rows of numbers that are made with the object, so that no call makes
 * anything new, and only Row touches an array.
 */
public final class DraftCommon {
    public static final int NONE = -1;
    public static final int ORDERED = 0, DONE = 1, CANCELLED = 2, PRINTED = 3;

    private static final int WRITERS = 6;
    private static final int REVIEWERS = 4;
    private static final int MOST_WORDS = 300;
    private static final int MOST_REVIEWS = 30;
    private static final int MOST_ISSUES = 12;
    private static final int MOST_COMMENTS = 40;
    private static final int MOST_VERSIONS = 20;
    private static final int GREATEST_WORD = 999;
    private static final int GREATEST_RATE = 100;
    private static final int GREATEST_URGENCY = 9;
    private static final int GREATEST_ROOM = 200;
    private static final int LAST_DAY = 1000;
    private static final int MOST_DAYS_AT_ONCE = 100;
    private static final int ROYALTY = 5;
    private static final int THOUSAND = 1000;

    private final Draft draft;
    private final Words words;
    private final Writer[] writers;
    private final Row royalties;
    private final Reviews reviews;
    private final Issues issues;
    private final Comments comments;
    private int versions;
    private int today;

    public DraftCommon() {
        draft = new Draft();
        words = draft.words();
        writers = new Writer[WRITERS];
        for (int i = 0; i < writers.length; i++) {
            writers[i] = new Writer();
        }
        royalties = Row.filled(WRITERS, 0);
        reviews = new Reviews();
        issues = new Issues();
        comments = new Comments();
        versions = 0;
        today = 0;
    }

    // ---- copies

    public int type(int writer, int place, int word)
            throws IndexOutOfBoundsException, IllegalArgumentException, IllegalStateException {
        Writer author = writerAt(writer);
        requireIndex(place, author.copied().size() + 1);
        requireRange(word, 0, GREATEST_WORD);
        requireState(words.count() < MOST_WORDS);
        int anchor = author.copied().at(place - 1);
        int number = words.add(writer, word, anchor);
        author.putIn(place, number);
        return number;
    }

    public int delete(int writer, int place) throws IndexOutOfBoundsException {
        Writer author = writerAt(writer);
        requireIndex(place, author.copied().size());
        return author.takeOut(place);
    }

    public int merge(int writer) throws IndexOutOfBoundsException {
        return writerAt(writer).mergeInto(draft);
    }

    public int copy(int writer) throws IndexOutOfBoundsException {
        return writerAt(writer).copied().size();
    }

    public int copyAt(int writer, int place) throws IndexOutOfBoundsException {
        Row copied = writerAt(writer).copied();
        requireIndex(place, copied.size());
        return copied.at(place);
    }

    public int changes(int writer) throws IndexOutOfBoundsException {
        return writerAt(writer).unmerged();
    }

    // ---- the draft

    public int length() {
        return draft.text().size();
    }

    public int wordAt(int place) throws IndexOutOfBoundsException {
        requireTextPlace(place);
        return draft.text().at(place);
    }

    public int word(int number) throws IndexOutOfBoundsException {
        requireWord(number);
        return THOUSAND * words.writerOf(number) + words.signOf(number);
    }

    public int placeOf(int number) throws IndexOutOfBoundsException {
        requireWord(number);
        return draft.text().indexOf(number);
    }

    public int share(int writer) throws IndexOutOfBoundsException {
        requireIndex(writer, WRITERS);
        return draft.countBy(writer);
    }

    public int shareAnew(int writer) throws IndexOutOfBoundsException {
        requireIndex(writer, WRITERS);
        return draft.countAnewBy(writer);
    }

    // ---- reviews

    public int setRate(int reviewer, int rate) throws IndexOutOfBoundsException, IllegalArgumentException {
        requireIndex(reviewer, REVIEWERS);
        requireRange(rate, 0, GREATEST_RATE);
        return reviews.changeRate(reviewer, rate);
    }

    public int order(int reviewer, int from, int to)
            throws IndexOutOfBoundsException, IllegalArgumentException, IllegalStateException {
        requireIndex(reviewer, REVIEWERS);
        requireSpan(from, to);
        requireState(!draft.hasFrozen(from, to));
        requireState(reviews.count() < MOST_REVIEWS);
        int review = reviews.add(reviewer, to - from + 1);
        draft.freeze(from, to, review);
        return review;
    }

    public int finish(int review, int urgency)
            throws IndexOutOfBoundsException, IllegalArgumentException, IllegalStateException {
        requireIndex(review, reviews.count());
        requireRange(urgency, 0, GREATEST_URGENCY);
        requireState(reviews.stateAt(review) == ORDERED);
        return reviews.setDone(review, urgency);
    }

    public int cancel(int review) throws IndexOutOfBoundsException, IllegalStateException {
        requireIndex(review, reviews.count());
        requireState(reviews.stateAt(review) == ORDERED);
        reviews.setCancelled(review);
        return words.unfreeze(review);
    }

    public int stateOf(int review) throws IndexOutOfBoundsException {
        requireIndex(review, reviews.count());
        return reviews.stateAt(review);
    }

    public int frozenBy(int number) throws IndexOutOfBoundsException {
        requireWord(number);
        return words.reviewOf(number);
    }

    public int earned(int reviewer) throws IndexOutOfBoundsException {
        requireIndex(reviewer, REVIEWERS);
        return reviews.earnedBy(reviewer);
    }

    // ---- issues

    public int addIssue(int day, int room) throws IllegalArgumentException, IllegalStateException {
        requireRange(day, today + 1, LAST_DAY);
        requireRange(room, 1, GREATEST_ROOM);
        requireState(issues.count() < MOST_ISSUES);
        requireState(issues.ofDay(day) == NONE);
        return issues.add(day, room);
    }

    public int waiting(int place) throws IllegalArgumentException {
        requireArgument(place >= 0);
        return reviews.waitingAt(place);
    }

    public int pass(int days) throws IllegalArgumentException, IllegalStateException {
        requireRange(days, 1, MOST_DAYS_AT_ONCE);
        requireState(today + days <= LAST_DAY);
        int sum = 0;
        for (int i = 0; i < days; i++) {
            today++;
            int issue = issues.ofDay(today);
            if (issue != NONE) {
                sum += printIssue(issue);
            }
        }
        return sum;
    }

    public int today() {
        return today;
    }

    public int printed(int issue) throws IndexOutOfBoundsException {
        requireIndex(issue, issues.count());
        return issues.printedIn(issue);
    }

    public int royalties(int writer) throws IndexOutOfBoundsException {
        requireIndex(writer, WRITERS);
        return royalties.at(writer);
    }

    // ---- comments and versions

    public int comment(int from, int to)
            throws IndexOutOfBoundsException, IllegalArgumentException, IllegalStateException {
        requireSpan(from, to);
        requireState(comments.count() < MOST_COMMENTS);
        return comments.add(draft.text().at(from), draft.text().at(to));
    }

    public int span(int comment) throws IndexOutOfBoundsException {
        requireIndex(comment, comments.count());
        int first = draft.firstBetween(comments.firstOf(comment), comments.lastOf(comment));
        if (first == NONE) {
            return NONE;
        }
        int size = draft.countBetween(comments.firstOf(comment), comments.lastOf(comment));
        return THOUSAND * draft.text().indexOf(first) + size;
    }

    public int keep() throws IllegalStateException {
        requireState(versions < MOST_VERSIONS);
        int version = versions;
        words.keepIn(version);
        versions++;
        return version;
    }

    public int compare(int one, int other) throws IndexOutOfBoundsException {
        requireIndex(one, versions);
        requireIndex(other, versions);
        return THOUSAND * words.countKeptOnlyIn(other, one) + words.countKeptOnlyIn(one, other);
    }

    // ---- what the calls share

    private Writer writerAt(int writer) {
        Writer found = writer >= 0 && writer < writers.length ? writers[writer] : null;
        if (found == null) {
            throw new IndexOutOfBoundsException("there is no such writer");
        }
        return found;
    }

    private void requireWord(int number) {
        requireIndex(number, words.count());
    }

    private void requireTextPlace(int place) {
        requireIndex(place, draft.text().size());
    }

    private void requireSpan(int from, int to) {
        requireTextPlace(from);
        requireTextPlace(to);
        requireArgument(from <= to);
    }

    private static void requireIndex(int index, int count) {
        if (index < 0 || index >= count) {
            throw new IndexOutOfBoundsException("there is nothing of this number or at this place");
        }
    }

    private static void requireRange(int value, int least, int greatest) {
        requireArgument(value >= least && value <= greatest);
    }

    private static void requireArgument(boolean holds) {
        if (!holds) {
            throw new IllegalArgumentException("an argument is out of its range");
        }
    }

    private static void requireState(boolean holds) {
        if (!holds) {
            throw new IllegalStateException("the state does not allow this call");
        }
    }

    private int printIssue(int issue) {
        int left = issues.roomOf(issue);
        int sum = 0;
        // Each round takes a review or ends it, and no more than MOST_REVIEWS can wait.
        for (int i = 0; i < MOST_REVIEWS; i++) {
            int review = reviews.waitingAt(0);
            if (review == NONE || reviews.sizeOf(review) > left) {
                break;
            }
            left -= reviews.sizeOf(review);
            sum += printReview(review);
        }
        issues.setPrinted(issue, sum);
        return sum;
    }

    private int printReview(int review) {
        reviews.printFirst();
        for (int number = 0; number < words.count(); number++) {
            if (words.reviewOf(number) == review) {
                royalties.raise(words.writerOf(number), ROYALTY);
            }
        }
        return words.unfreeze(review);
    }

    /** A row of numbers with a fixed room; what is outside of it reads as NONE and stays as it is. */
    private static final class Row {
        private final int[] cells;
        private int size;

        Row(int room) {
            cells = new int[room < 0 ? 0 : room];
            size = 0;
        }

        static Row filled(int room, int value) {
            Row row = new Row(room);
            for (int i = 0; i < room; i++) {
                row.add(value);
            }
            return row;
        }

        int size() {
            return size;
        }

        boolean has(int index) {
            return index >= 0 && index < size && index < cells.length;
        }

        int at(int index) {
            return has(index) ? cells[index] : NONE;
        }

        void set(int index, int value) {
            if (has(index)) {
                cells[index] = value;
            }
        }

        void raise(int index, int by) {
            set(index, at(index) + by);
        }

        void add(int value) {
            insert(size, value);
        }

        void insert(int index, int value) {
            if (index < 0 || index > size || size >= cells.length) {
                return;
            }
            System.arraycopy(cells, index, cells, index + 1, size - index);
            cells[index] = value;
            size++;
        }

        int remove(int index) {
            if (!has(index)) {
                return NONE;
            }
            int value = cells[index];
            System.arraycopy(cells, index + 1, cells, index, size - index - 1);
            size--;
            return value;
        }

        int indexOf(int value) {
            for (int i = 0; i < size; i++) {
                if (at(i) == value) {
                    return i;
                }
            }
            return NONE;
        }

        void clear() {
            size = 0;
        }

        void become(Row other) {
            clear();
            for (int i = 0; i < other.size; i++) {
                add(other.at(i));
            }
        }
    }

    /** All words that were ever typed, by their numbers. */
    private static final class Words {
        // A word that waits in a copy and a word that was refused are both apart from the draft.
        private static final int APART = 0, THERE = 1, DELETED = 2;

        private final Row signs = new Row(MOST_WORDS);
        private final Row authors = new Row(MOST_WORDS);
        private final Row anchors = new Row(MOST_WORDS);
        private final Row states = new Row(MOST_WORDS);
        private final Row freezers = new Row(MOST_WORDS);
        // One bit for each version: MOST_VERSIONS of them fit into an int.
        private final Row keepers = new Row(MOST_WORDS);

        int count() {
            return signs.size();
        }

        int add(int writer, int sign, int anchor) {
            signs.add(sign);
            authors.add(writer);
            anchors.add(anchor);
            states.add(APART);
            freezers.add(NONE);
            keepers.add(0);
            return count() - 1;
        }

        int signOf(int number) {
            return signs.at(number);
        }

        int writerOf(int number) {
            return authors.at(number);
        }

        int anchorOf(int number) {
            return anchors.at(number);
        }

        boolean cameIn(int number) {
            return states.at(number) == THERE || states.at(number) == DELETED;
        }

        boolean isThere(int number) {
            return states.at(number) == THERE;
        }

        void setThere(int number) {
            states.set(number, THERE);
        }

        void setDeleted(int number) {
            states.set(number, DELETED);
        }

        int reviewOf(int number) {
            return freezers.at(number);
        }

        boolean isFrozen(int number) {
            return reviewOf(number) != NONE;
        }

        void setFrozen(int number, int review) {
            freezers.set(number, review);
        }

        int unfreeze(int review) {
            int released = 0;
            for (int number = 0; number < count(); number++) {
                if (reviewOf(number) == review) {
                    freezers.set(number, NONE);
                    released++;
                }
            }
            return released;
        }

        void keepIn(int version) {
            for (int number = 0; number < count(); number++) {
                if (isThere(number)) {
                    keepers.set(number, keepers.at(number) | 1 << version);
                }
            }
        }

        int countKeptOnlyIn(int version, int notIn) {
            int only = 0;
            for (int number = 0; number < count(); number++) {
                if (isKeptIn(number, version) && !isKeptIn(number, notIn)) {
                    only++;
                }
            }
            return only;
        }

        private boolean isKeptIn(int number, int version) {
            return (keepers.at(number) & 1 << version) != 0;
        }
    }

    /** Changes in their order; each is the typing or the deleting of a word. */
    private static final class Changes {
        // A word is typed once, and deleted once at most until a merge brings the copy anew.
        private final Row codes = new Row(2 * MOST_WORDS);

        int count() {
            return codes.size();
        }

        void addTyped(int number) {
            codes.add(number);
        }

        // A deleting is told from a typing by standing above all numbers of words.
        void addDeleted(int number) {
            codes.add(MOST_WORDS + number);
        }

        boolean isTyped(int index) {
            return codes.at(index) < MOST_WORDS;
        }

        int numberAt(int index) {
            return isTyped(index) ? codes.at(index) : codes.at(index) - MOST_WORDS;
        }

        void clear() {
            codes.clear();
        }
    }

    /** What a writer has apart from the draft. */
    private static final class Writer {
        private final Row own = new Row(MOST_WORDS);
        private final Changes pending = new Changes();

        Row copied() {
            return own;
        }

        int unmerged() {
            return pending.count();
        }

        void putIn(int place, int number) {
            own.insert(place, number);
            pending.addTyped(number);
        }

        int takeOut(int place) {
            int number = own.remove(place);
            pending.addDeleted(number);
            return number;
        }

        int mergeInto(Draft draft) {
            int refused = 0;
            for (int i = 0; i < pending.count(); i++) {
                int number = pending.numberAt(i);
                boolean done = pending.isTyped(i) ? draft.putIn(number) : draft.takeOut(number);
                if (!done) {
                    refused++;
                }
            }
            pending.clear();
            draft.renewText();
            own.become(draft.text());
            return refused;
        }
    }

    /** The row of words, and the text of those that are there. */
    private static final class Draft {
        private final Words words = new Words();
        private final Row row = new Row(MOST_WORDS);
        private final Row text = new Row(MOST_WORDS);
        // Only what changed the draft stands here; a change that found nothing to do adds nothing.
        private final Changes history = new Changes();

        Words words() {
            return words;
        }

        Row text() {
            return text;
        }

        /** False if it is refused. */
        boolean putIn(int number) {
            int anchor = anchorInRow(number);
            int index = anchor == NONE ? 0 : row.indexOf(anchor) + 1;
            if (partsReview(index)) {
                return false;
            }
            row.insert(index, number);
            words.setThere(number);
            history.addTyped(number);
            return true;
        }

        /** False if it is refused; to find nothing to delete is no refusal. */
        boolean takeOut(int number) {
            if (!words.isThere(number)) {
                return true;
            }
            if (words.isFrozen(number)) {
                return false;
            }
            words.setDeleted(number);
            history.addDeleted(number);
            return true;
        }

        void renewText() {
            text.clear();
            for (int i = 0; i < row.size(); i++) {
                if (words.isThere(row.at(i))) {
                    text.add(row.at(i));
                }
            }
        }

        int countBy(int writer) {
            int sum = 0;
            for (int i = 0; i < text.size(); i++) {
                if (words.writerOf(text.at(i)) == writer) {
                    sum++;
                }
            }
            return sum;
        }

        int countAnewBy(int writer) {
            int sum = 0;
            for (int i = 0; i < history.count(); i++) {
                if (words.writerOf(history.numberAt(i)) == writer) {
                    sum += history.isTyped(i) ? 1 : -1;
                }
            }
            return sum;
        }

        boolean hasFrozen(int from, int to) {
            for (int place = from; place <= to && place < text.size(); place++) {
                if (words.isFrozen(text.at(place))) {
                    return true;
                }
            }
            return false;
        }

        void freeze(int from, int to, int review) {
            for (int place = from; place <= to && place < text.size(); place++) {
                words.setFrozen(text.at(place), review);
            }
        }

        /** The first word of the text in the row from one word to another, or NONE. */
        int firstBetween(int first, int last) {
            int end = row.indexOf(last);
            for (int i = row.indexOf(first); i <= end; i++) {
                if (words.isThere(row.at(i))) {
                    return row.at(i);
                }
            }
            return NONE;
        }

        int countBetween(int first, int last) {
            int sum = 0;
            int end = row.indexOf(last);
            for (int i = row.indexOf(first); i <= end; i++) {
                if (words.isThere(row.at(i))) {
                    sum++;
                }
            }
            return sum;
        }

        // An anchor was typed ahead of its word, so the chain ends within MOST_WORDS steps.
        private int anchorInRow(int number) {
            int anchor = words.anchorOf(number);
            for (int i = 0; i < MOST_WORDS && anchor != NONE && !words.cameIn(anchor); i++) {
                anchor = words.anchorOf(anchor);
            }
            return anchor;
        }

        // Deleted words keep their places in the row but part nothing, so they are passed over.
        private boolean partsReview(int index) {
            int ahead = index - 1;
            while (ahead >= 0 && !words.isThere(row.at(ahead))) {
                ahead--;
            }
            int behind = index;
            while (behind < row.size() && !words.isThere(row.at(behind))) {
                behind++;
            }
            int review = words.reviewOf(row.at(ahead));
            return review != NONE && review == words.reviewOf(row.at(behind));
        }
    }

    /** All reviews by their numbers, the row of those that wait, and what reviewers ask and earn. */
    private static final class Reviews {
        private static final int FIRST_RATE = 1;

        private final Row reviewers = new Row(MOST_REVIEWS);
        private final Row sizes = new Row(MOST_REVIEWS);
        private final Row pays = new Row(MOST_REVIEWS);
        private final Row states = new Row(MOST_REVIEWS);
        private final Row urgencies = new Row(MOST_REVIEWS);
        private final Row queue = new Row(MOST_REVIEWS);
        private final Row rates = Row.filled(REVIEWERS, FIRST_RATE);
        private final Row earnings = Row.filled(REVIEWERS, 0);

        int count() {
            return reviewers.size();
        }

        int changeRate(int reviewer, int rate) {
            int before = rates.at(reviewer);
            rates.set(reviewer, rate);
            return before;
        }

        int earnedBy(int reviewer) {
            return earnings.at(reviewer);
        }

        int add(int reviewer, int size) {
            reviewers.add(reviewer);
            sizes.add(size);
            pays.add(size * rates.at(reviewer));
            states.add(ORDERED);
            urgencies.add(NONE);
            return count() - 1;
        }

        int stateAt(int review) {
            return states.at(review);
        }

        int sizeOf(int review) {
            return sizes.at(review);
        }

        int setDone(int review, int urgency) {
            int reviewer = reviewers.at(review);
            states.set(review, DONE);
            urgencies.set(review, urgency);
            queue.insert(placeInQueue(urgency), review);
            earnings.raise(reviewer, pays.at(review));
            return earnings.at(reviewer);
        }

        void setCancelled(int review) {
            states.set(review, CANCELLED);
        }

        int waitingAt(int place) {
            return queue.at(place);
        }

        void printFirst() {
            states.set(queue.remove(0), PRINTED);
        }

        private int placeInQueue(int urgency) {
            int place = 0;
            while (place < queue.size() && urgencies.at(queue.at(place)) >= urgency) {
                place++;
            }
            return place;
        }
    }

    /** All issues by their numbers. */
    private static final class Issues {
        private final Row days = new Row(MOST_ISSUES);
        private final Row rooms = new Row(MOST_ISSUES);
        private final Row sums = new Row(MOST_ISSUES);

        int count() {
            return days.size();
        }

        int add(int day, int room) {
            days.add(day);
            rooms.add(room);
            sums.add(NONE);
            return count() - 1;
        }

        int ofDay(int day) {
            return days.indexOf(day);
        }

        int roomOf(int issue) {
            return rooms.at(issue);
        }

        int printedIn(int issue) {
            return sums.at(issue);
        }

        void setPrinted(int issue, int sum) {
            sums.set(issue, sum);
        }
    }

    /** All comments by their numbers, each with the two words that it is tied to. */
    private static final class Comments {
        private final Row firsts = new Row(MOST_COMMENTS);
        private final Row lasts = new Row(MOST_COMMENTS);

        int count() {
            return firsts.size();
        }

        int add(int first, int last) {
            firsts.add(first);
            lasts.add(last);
            return count() - 1;
        }

        int firstOf(int comment) {
            return firsts.at(comment);
        }

        int lastOf(int comment) {
            return lasts.at(comment);
        }
    }
}
