import java.io.IOException;
import java.nio.file.Files;
import java.nio.file.Path;
import java.util.ArrayList;
import java.util.List;
import java.util.Map;
import java.util.TreeMap;

/** Every sentence of the document, from its first line to its last, each with a test of its own. */
public final class SentencesTest {
    public static void main(String[] args) throws IOException {
        WhatItIsSentences.run();
        TreeSentences.run();
        NameSentences.run();
        HeaderSentences.run();
        FaceSentences.run();
        ConstructionSentences.run();
        AddNodeSentences.run();
        AppendDataSentences.run();
        CreateSentences.run();
        ExtractSentences.run();
        StopSentences.run();
        RoundTripSentences.run();
        ArchiveSentences.run();
        NodeSentences.run();
        NotPromisedSentences.run();
        compareWithDocument();
        Kit.end(SentencesTest.class);
    }

    /** No word of the document is left out, and none is quoted that does not stand there. */
    private static void compareWithDocument() throws IOException {
        Map<String, List<String>> document = document();
        Kit.due("sections of the document, with its title", document.size(), 19);
        document.forEach((title, paragraphs) -> paragraphs.forEach(paragraph ->
            Kit.due("what is untested in " + title, Sentences.unquoted(title, paragraph), "")));
        Sentences.quoted().forEach((title, quotes) -> {
            String text = String.join(" ", document.getOrDefault(title, List.of()));
            quotes.forEach(quote -> Kit.due("misquoted, " + title + ": " + quote, text.contains(quote) ? 0 : 1, 0));
        });
    }

    /** The paragraphs and list items of each section. */
    private static Map<String, List<String>> document() throws IOException {
        Map<String, List<String>> sections = new TreeMap<>();
        List<String> paragraphs = new ArrayList<>();
        for (String line : Files.readAllLines(Path.of("../shared/DOC.md"))) {
            if (line.startsWith("#")) {
                paragraphs = new ArrayList<>();
                sections.put(line.replaceAll("^#+ *", ""), paragraphs);
            } else if (!line.isBlank() && !line.startsWith("```")) {
                // A list item's mark is no part of its sentence.
                paragraphs.add(line.strip().replaceAll("^(- |\\d+\\. )", ""));
            }
        }
        return sections;
    }
}
