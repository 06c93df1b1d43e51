import java.util.ArrayList;
import java.util.Comparator;
import java.util.HashSet;
import java.util.LinkedHashMap;
import java.util.List;
import java.util.Map;
import java.util.Set;

/**
 * The document once more, written apart from the class and as plainly as the Java library lets it: everything
 * is an object, nothing is kept that can be found from the rest.
 */
final class Model {
    static final class Word {
        int number, writer, sign;
        Word anchor;
        boolean came, deleted;
    }

    static final class Change {
        Word word;
        boolean typed;
    }

    static final class Author {
        List<Word> copy = new ArrayList<>();
        List<Change> changes = new ArrayList<>();
        int royalties;
    }

    static final class Review {
        int reviewer, pay, state, urgency, turn;
        List<Word> words = new ArrayList<>();
    }

    static final class Issue {
        int day, room, printed = -1;
    }

    final List<Word> words = new ArrayList<>();
    final List<Word> row = new ArrayList<>();
    final List<Change> done = new ArrayList<>();
    final List<Author> authors = new ArrayList<>();
    final List<Review> reviews = new ArrayList<>();
    final List<Issue> issues = new ArrayList<>();
    final List<Word[]> comments = new ArrayList<>();
    final List<Set<Word>> versions = new ArrayList<>();
    final int[] rates = {1, 1, 1, 1};
    final int[] earned = new int[4];
    int today = 0;
    int turns = 0;

    Model() {
        for (int i = 0; i < 6; i++) {
            authors.add(new Author());
        }
    }

    long answer(int call, int a, int b, int c) {
        switch (Calls.NAMES[call]) {
            case "type": return type(a, b, c);
            case "delete": return delete(a, b);
            case "merge": return out(a, 6) ? Calls.NO_PLACE : merge(authors.get(a));
            case "copy": return out(a, 6) ? Calls.NO_PLACE : authors.get(a).copy.size();
            case "copyAt": return out(a, 6) || out(b, authors.get(a).copy.size())
                    ? Calls.NO_PLACE : authors.get(a).copy.get(b).number;
            case "changes": return out(a, 6) ? Calls.NO_PLACE : authors.get(a).changes.size();
            case "length": return text().size();
            case "wordAt": return out(a, text().size()) ? Calls.NO_PLACE : text().get(a).number;
            case "word": return out(a, words.size()) ? Calls.NO_PLACE : words.get(a).writer * 1000 + words.get(a).sign;
            case "placeOf": return out(a, words.size()) ? Calls.NO_PLACE : text().indexOf(words.get(a));
            case "share": return out(a, 6) ? Calls.NO_PLACE : text().stream().filter(w -> w.writer == a).count();
            case "shareAnew": return out(a, 6) ? Calls.NO_PLACE : shareAnew(a);
            case "setRate": return setRate(a, b);
            case "order": return order(a, b, c);
            case "finish": return finish(a, b);
            case "cancel": return cancel(a);
            case "stateOf": return out(a, reviews.size()) ? Calls.NO_PLACE : reviews.get(a).state;
            case "frozenBy": return out(a, words.size()) ? Calls.NO_PLACE : frozenBy(words.get(a));
            case "earned": return out(a, 4) ? Calls.NO_PLACE : earned[a];
            case "addIssue": return addIssue(a, b);
            case "waiting": return a < 0 ? Calls.NO_ARGUMENT
                    : a < waiting().size() ? reviews.indexOf(waiting().get(a)) : -1;
            case "pass": return pass(a);
            case "today": return today;
            case "printed": return out(a, issues.size()) ? Calls.NO_PLACE : issues.get(a).printed;
            case "royalties": return out(a, 6) ? Calls.NO_PLACE : authors.get(a).royalties;
            case "comment": return comment(a, b);
            case "span": return out(a, comments.size()) ? Calls.NO_PLACE : span(comments.get(a));
            case "keep": return keep();
            default: return compare(a, b);
        }
    }

    static boolean out(int index, int count) {
        return index < 0 || index >= count;
    }

    List<Word> text() {
        List<Word> text = new ArrayList<>(row);
        text.removeIf(w -> w.deleted);
        return text;
    }

    int frozenBy(Word word) {
        for (int i = 0; i < reviews.size(); i++) {
            boolean holds = reviews.get(i).state == DraftCommon.ORDERED || reviews.get(i).state == DraftCommon.DONE;
            if (holds && reviews.get(i).words.contains(word)) {
                return i;
            }
        }
        return -1;
    }

    long type(int writer, int place, int sign) {
        if (out(writer, 6) || out(place, authors.get(writer).copy.size() + 1)) {
            return Calls.NO_PLACE;
        }
        if (sign < 0 || sign > 999) {
            return Calls.NO_ARGUMENT;
        }
        if (words.size() == 300) {
            return Calls.NO_STATE;
        }
        Word word = new Word();
        word.number = words.size();
        word.writer = writer;
        word.sign = sign;
        word.anchor = place == 0 ? null : authors.get(writer).copy.get(place - 1);
        words.add(word);
        authors.get(writer).copy.add(place, word);
        note(authors.get(writer).changes, word, true);
        return word.number;
    }

    long delete(int writer, int place) {
        if (out(writer, 6) || out(place, authors.get(writer).copy.size())) {
            return Calls.NO_PLACE;
        }
        Word word = authors.get(writer).copy.remove(place);
        note(authors.get(writer).changes, word, false);
        return word.number;
    }

    static void note(List<Change> changes, Word word, boolean typed) {
        Change change = new Change();
        change.word = word;
        change.typed = typed;
        changes.add(change);
    }

    long merge(Author author) {
        int refused = 0;
        for (Change change : author.changes) {
            if (change.typed ? !mergeTyped(change.word) : !mergeDeleted(change.word)) {
                refused++;
            } else {
                done.add(change);
            }
        }
        author.changes.clear();
        author.copy = text();
        return refused;
    }

    boolean mergeTyped(Word word) {
        Word anchor = word.anchor;
        while (anchor != null && !anchor.came) {
            anchor = anchor.anchor;
        }
        int index = anchor == null ? 0 : row.indexOf(anchor) + 1;
        List<Word> tried = new ArrayList<>(row);
        tried.add(index, word);
        tried.removeIf(w -> w.deleted);
        int place = tried.indexOf(word);
        if (place > 0 && place + 1 < tried.size()) {
            int ahead = frozenBy(tried.get(place - 1));
            if (ahead >= 0 && ahead == frozenBy(tried.get(place + 1))) {
                return false;
            }
        }
        row.add(index, word);
        word.came = true;
        return true;
    }

    boolean mergeDeleted(Word word) {
        if (!word.came || word.deleted) {
            return true;
        }
        if (frozenBy(word) >= 0) {
            return false;
        }
        word.deleted = true;
        return true;
    }

    long shareAnew(int writer) {
        Map<Word, Boolean> there = new LinkedHashMap<>();
        for (Change change : done) {
            if (change.typed || there.containsKey(change.word)) {
                there.put(change.word, change.typed);
            }
        }
        return there.entrySet().stream().filter(e -> e.getValue() && e.getKey().writer == writer).count();
    }

    long setRate(int reviewer, int rate) {
        if (out(reviewer, 4)) {
            return Calls.NO_PLACE;
        }
        if (rate < 0 || rate > 100) {
            return Calls.NO_ARGUMENT;
        }
        int before = rates[reviewer];
        rates[reviewer] = rate;
        return before;
    }

    long order(int reviewer, int from, int to) {
        int length = text().size();
        if (out(reviewer, 4) || out(from, length) || out(to, length)) {
            return Calls.NO_PLACE;
        }
        if (to < from) {
            return Calls.NO_ARGUMENT;
        }
        List<Word> span = text().subList(from, to + 1);
        if (reviews.size() == 30 || span.stream().anyMatch(w -> frozenBy(w) >= 0)) {
            return Calls.NO_STATE;
        }
        Review review = new Review();
        review.reviewer = reviewer;
        review.state = DraftCommon.ORDERED;
        review.words.addAll(span);
        review.pay = span.size() * rates[reviewer];
        reviews.add(review);
        return reviews.size() - 1;
    }

    long finish(int number, int urgency) {
        if (out(number, reviews.size())) {
            return Calls.NO_PLACE;
        }
        if (urgency < 0 || urgency > 9) {
            return Calls.NO_ARGUMENT;
        }
        Review review = reviews.get(number);
        if (review.state != DraftCommon.ORDERED) {
            return Calls.NO_STATE;
        }
        review.state = DraftCommon.DONE;
        review.urgency = urgency;
        review.turn = turns++;
        earned[review.reviewer] += review.pay;
        return earned[review.reviewer];
    }

    long cancel(int number) {
        if (out(number, reviews.size())) {
            return Calls.NO_PLACE;
        }
        if (reviews.get(number).state != DraftCommon.ORDERED) {
            return Calls.NO_STATE;
        }
        reviews.get(number).state = DraftCommon.CANCELLED;
        return reviews.get(number).words.size();
    }

    List<Review> waiting() {
        List<Review> waiting = new ArrayList<>(reviews);
        waiting.removeIf(r -> r.state != DraftCommon.DONE);
        waiting.sort(Comparator.comparingInt((Review r) -> -r.urgency).thenComparingInt(r -> r.turn));
        return waiting;
    }

    long addIssue(int day, int room) {
        if (day <= today || day > 1000 || room < 1 || room > 200) {
            return Calls.NO_ARGUMENT;
        }
        if (issues.size() == 12 || issues.stream().anyMatch(i -> i.day == day)) {
            return Calls.NO_STATE;
        }
        Issue issue = new Issue();
        issue.day = day;
        issue.room = room;
        issues.add(issue);
        return issues.size() - 1;
    }

    long pass(int days) {
        if (days < 1 || days > 100) {
            return Calls.NO_ARGUMENT;
        }
        if (today + days > 1000) {
            return Calls.NO_STATE;
        }
        int sum = 0;
        for (int end = today + days; today < end;) {
            today++;
            for (Issue issue : issues) {
                if (issue.day == today) {
                    print(issue);
                    sum += issue.printed;
                }
            }
        }
        return sum;
    }

    void print(Issue issue) {
        issue.printed = 0;
        for (Review review : waiting()) {
            if (issue.printed + review.words.size() > issue.room) {
                return;
            }
            issue.printed += review.words.size();
            review.state = DraftCommon.PRINTED;
            for (Word word : review.words) {
                authors.get(word.writer).royalties += 5;
            }
        }
    }

    long comment(int from, int to) {
        if (out(from, text().size()) || out(to, text().size())) {
            return Calls.NO_PLACE;
        }
        if (to < from) {
            return Calls.NO_ARGUMENT;
        }
        if (comments.size() == 40) {
            return Calls.NO_STATE;
        }
        comments.add(new Word[] {text().get(from), text().get(to)});
        return comments.size() - 1;
    }

    long span(Word[] ends) {
        List<Word> span = new ArrayList<>(row.subList(row.indexOf(ends[0]), row.indexOf(ends[1]) + 1));
        span.removeIf(w -> w.deleted);
        return span.isEmpty() ? -1 : 1000L * text().indexOf(span.get(0)) + span.size();
    }

    long keep() {
        if (versions.size() == 20) {
            return Calls.NO_STATE;
        }
        versions.add(new HashSet<>(text()));
        return versions.size() - 1;
    }

    long compare(int one, int other) {
        if (out(one, versions.size()) || out(other, versions.size())) {
            return Calls.NO_PLACE;
        }
        Set<Word> more = new HashSet<>(versions.get(other));
        more.removeAll(versions.get(one));
        Set<Word> less = new HashSet<>(versions.get(one));
        less.removeAll(versions.get(other));
        return 1000L * more.size() + less.size();
    }
}
