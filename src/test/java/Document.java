import java.io.IOException;
import java.nio.file.Files;
import java.nio.file.Path;
import java.util.ArrayList;
import java.util.LinkedHashMap;
import java.util.List;
import java.util.Map;
import java.util.regex.Matcher;
import java.util.regex.Pattern;

/** The project's document, by sections, with what tests have quoted of it. */
final class Document {
    private static final Path PLACE = Path.of("../shared/DOC.md");
    private static final Pattern HEADING = Pattern.compile("(?m)^## ([^:\n]*).*$");

    private final Map<String, String> sections = new LinkedHashMap<>();
    private final Map<String, boolean[]> quoted = new LinkedHashMap<>();

    Document() throws IOException {
        String all = Files.readString(PLACE);
        Matcher heading = HEADING.matcher(all);
        String name = null;
        int from = 0;
        while (heading.find()) {
            put(name, all.substring(from, heading.start()));
            name = heading.group(1);
            from = heading.end();
        }
        put(name, all.substring(from));
    }

    /** Fences, marks of chapters and the line that names a method are not sentences. */
    private void put(String name, String text) {
        if (name != null) {
            String plain = text.replaceAll("(?m)^```.*$", "").replaceAll("={8} \\d", "")
                    .replaceAll("(?m)^`[^`]*`: ", "").replaceAll("\\s+", " ").trim();
            sections.put(name, plain);
            quoted.put(name, new boolean[plain.length()]);
        }
    }

    /** Whether a sentence stands in a section; it counts as quoted from then on. */
    boolean quote(String section, String sentence) {
        int at = sections.getOrDefault(section, "").indexOf(sentence);
        for (int i = at; at >= 0 && i < at + sentence.length(); i++) {
            quoted.get(section)[i] = true;
        }
        return at >= 0;
    }

    /** What stands in the terms and in the promises and has not been quoted. */
    List<String> notQuoted() {
        List<String> rest = new ArrayList<>();
        for (String section : sections.keySet()) {
            if (section.equals("Terms") || section.startsWith("Promise ")) {
                addRest(section, rest);
            }
        }
        return rest;
    }

    private void addRest(String section, List<String> rest) {
        String text = sections.get(section);
        StringBuilder piece = new StringBuilder();
        for (int i = 0; i <= text.length(); i++) {
            if (i < text.length() && !quoted.get(section)[i]) {
                piece.append(text.charAt(i));
            } else {
                if (!piece.toString().isBlank()) {
                    rest.add(section + ": " + piece.toString().trim());
                }
                piece.setLength(0);
            }
        }
    }
}
