import java.io.IOException;
import java.nio.file.Files;
import java.nio.file.Path;
import java.util.ArrayList;
import java.util.List;
import java.util.Map;
import java.util.TreeMap;

/** Every sentence of promises 1 to 12 and of the terms they use, each with a test of its own. */
public final class SentencesTest {
    public static void main(String[] args) throws IOException {
        WhatItIsSentences.run();
        TreeSentences.run();
        NameSentences.run();
        HeaderSentences.run();
        ConstructionSentences.run();
        AddNodeSentences.run();
        AppendDataSentences.run();
        CreateSentences.run();
        ExtractSentences.run();
        StopSentences.run();
        RoundTripSentences.run();
        ArchiveSentences.run();
        NodeSentences.run();
        compareWithDocument();
        Kit.end(SentencesTest.class);
    }

    /** No word of the document is left out, and none is quoted that does not stand there. */
    private static void compareWithDocument() throws IOException {
        Map<String, List<String>> document = document();
        Kit.due("sections of the document, What it is to Promise 12", document.size(), 16);
        document.forEach((title, paragraphs) -> paragraphs.forEach(paragraph ->
            Kit.due("what is untested in " + title, Sentences.unquoted(title, paragraph), "")));
        Sentences.quoted().forEach((title, quotes) -> {
            String text = String.join(" ", document.getOrDefault(title, List.of()));
            quotes.forEach(quote -> Kit.due("misquoted, " + title + ": " + quote, text.contains(quote) ? 0 : 1, 0));
        });
    }

    /** The paragraphs and list items of each section. */
    private static Map<String, List<String>> document() throws IOException {
        Map<String, List<String>> sections = new TreeMap<>();
        List<String> paragraphs = new ArrayList<>();
        String text = Files.readString(Path.of("../shared/DOC.md")).replaceAll("(?s)```.*?```", "");
        for (String line : text.split("\n")) {
            if (line.startsWith("#")) {
                paragraphs = new ArrayList<>();
                sections.put(line.replaceAll("^#+ *", ""), paragraphs);
            } else if (!line.isBlank()) {
                // A list item's mark is no part of its sentence.
                paragraphs.add(line.strip().replaceAll("^(- |\\d+\\. )", ""));
            }
        }
        sections.keySet().removeIf(title -> !title.matches("What it is|Trees|Names and paths|Header block|Promise \\d+: .*"));
        return sections;
    }
}
