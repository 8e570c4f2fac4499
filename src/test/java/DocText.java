import java.io.IOException;
import java.nio.file.Files;
import java.nio.file.Path;
import java.util.ArrayList;
import java.util.LinkedHashMap;
import java.util.List;
import java.util.Map;

/** The text of the document, by places, with a memory of which of its words some test has named. */
final class DocText {
    private static final class Place {
        final StringBuilder words = new StringBuilder();
        boolean[] named = new boolean[0];
        boolean isBinding;
    }

    private static final Path FILE = Path.of("../shared/DOC.md");

    private final Map<String, Place> places = new LinkedHashMap<>();

    DocText() throws IOException {
        if (!Files.exists(FILE)) {
            System.out.println("there is no " + FILE + ": the sentences are not compared with it");
            return;
        }
        Place place = new Place();
        for (String line : Files.readAllLines(FILE)) {
            if (line.startsWith("#") || isHeadingOfDescription(line)) {
                String name = line.replaceFirst("^#+ ", "").replaceFirst("^(Promise \\d+):.*", "$1");
                place = new Place();
                place.isBinding = !List.of("OvenDays", "The public face", "Not promised").contains(name);
                places.put(name, place);
            } else if (!isForOtherTests(line)) {
                place.words.append(line).append('\n');
            }
        }
        places.values().forEach(one -> one.named = new boolean[one.words.length()]);
    }

    private static boolean isHeadingOfDescription(String line) {
        return line.matches("[A-Z ]{4,}");
    }

    /** Signatures are the matter of FaceTest; headings and what leads to other lines promise nothing. */
    private static boolean isForOtherTests(String line) {
        return line.startsWith("`") || line.startsWith("```") || line.matches("---- (households|days and claims|values|"
                + "command text, undo and checksum)") || line.equals("The constants:")
                || line.startsWith("The days of a village oven: ")
                || line.startsWith("The constructor and the methods follow, a promise each");
    }

    /** Remembers that a sentence is named; answers false if it does not stand at this place. */
    boolean name(String placeName, String sentence) {
        Place place = places.get(placeName);
        if (place == null) {
            return places.isEmpty();
        }
        int start = place.words.indexOf(sentence);
        boolean stands = start >= 0;
        while (start >= 0) {
            for (int index = start; index < start + sentence.length(); index++) {
                place.named[index] = true;
            }
            start = place.words.indexOf(sentence, start + 1);
        }
        return stands;
    }

    /** The stretches of the document that no test has named. */
    List<String> unnamed() {
        List<String> stretches = new ArrayList<>();
        places.forEach((name, place) -> {
            StringBuilder stretch = new StringBuilder();
            for (int index = 0; index <= place.words.length(); index++) {
                if (index < place.words.length() && !place.named[index]) {
                    stretch.append(place.words.charAt(index));
                } else {
                    if (place.isBinding && stretch.toString().matches("(?s).*\\w.*")) {
                        stretches.add(name + ": " + stretch.toString().strip());
                    }
                    stretch.setLength(0);
                }
            }
        });
        return stretches;
    }
}
