import java.io.IOException;
import java.io.UncheckedIOException;
import java.nio.file.Files;
import java.nio.file.Path;
import java.util.ArrayList;
import java.util.List;

/** The document's sentences: each test of an edge names the one that it is for, and at the end none may be left. */
final class Doc {
    private static final Path FILE = Path.of("..", "shared", "DOC.md");
    private static final List<Section> SECTIONS = read();
    private static String latest = "";
    private static int askedBefore = 0;

    private static final class Section {
        final String title;
        final StringBuilder words = new StringBuilder();
        boolean[] named = {};

        Section(String title) {
            this.title = title;
        }

        /** Sentences are found however the document breaks its lines. */
        void add(String line) {
            for (String word : line.trim().split("\\s+")) {
                words.append(words.length() > 0 && !word.isEmpty() ? " " : "").append(word);
            }
        }

        void end() {
            named = new boolean[words.length()];
            int signature = title.startsWith("Promise") ? words.indexOf("`: ") : -1;
            for (int i = 0; i < signature + 1; i++) {
                named[i] = true;
            }
        }
    }

    private Doc() {
    }

    private static List<Section> read() {
        List<Section> sections = new ArrayList<>();
        try {
            for (String line : Files.readAllLines(FILE)) {
                if (line.startsWith("## ")) {
                    sections.add(new Section(line.substring(3)));
                } else if (!sections.isEmpty() && !line.startsWith("```")) {
                    sections.get(sections.size() - 1).add(line);
                }
            }
        } catch (IOException e) {
            throw new UncheckedIOException(e);
        }
        for (Section section : sections) {
            section.end();
        }
        return sections;
    }

    /** Names the sentence, or the part of one, that the checks behind this are for. */
    static void says(String title, String words) {
        endLatest();
        latest = title + ": " + words;
        Due.isFor(latest);
        boolean found = false;
        for (Section section : SECTIONS) {
            if (section.title.equals(title) || section.title.startsWith(title + ": ")) {
                for (int at = section.words.indexOf(words); at >= 0; at = section.words.indexOf(words, at + 1)) {
                    found = true;
                    for (int i = at; i < at + words.length(); i++) {
                        section.named[i] = true;
                    }
                }
            }
        }
        Due.holds("the document says this", found);
        askedBefore = Due.asked();
    }

    private static void endLatest() {
        if (!latest.isEmpty()) {
            Due.holds("there is a check", Due.asked() > askedBefore);
        }
    }

    /** Each sentence of the promises and of the terms must have been named. */
    static void allNamed() {
        endLatest();
        Due.isFor("");
        for (Section section : SECTIONS) {
            if (section.title.startsWith("Promise") || section.title.equals("Terms")
                    || section.title.equals("What it is")) {
                allNamed(section);
            }
        }
    }

    private static void allNamed(Section section) {
        StringBuilder left = new StringBuilder();
        for (int i = 0; i <= section.named.length; i++) {
            if (i < section.named.length && !section.named[i]) {
                left.append(section.words.charAt(i));
            } else {
                boolean empty = left.chars().noneMatch(Character::isLetterOrDigit);
                Due.holds("a test names, in " + section.title + ":" + left, empty);
                left.setLength(0);
            }
        }
    }
}
