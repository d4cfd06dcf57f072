import java.nio.charset.StandardCharsets;
import java.nio.file.Files;
import java.nio.file.Path;
import java.util.regex.Matcher;
import java.util.regex.Pattern;

/** The rules of ../shared/LANGUAGE.md that can be seen in the words of the class. */
final class LanguageTest {
    private static final String[] NOT_IN_IT = {
        "\\bthrow\\b", "\\bthrows\\b", "\\btry\\b", "\\bcatch\\b", "\\bsynchronized\\b", "\\bassert\\b", "\\bpackage\\b",
        "->", "::", "@\\w+", "\\bprotected\\b", "\\bSystem\\.(?!arraycopy)", "\\bThread\\b", "\\bObject\\b", "Exact\\(",
        "\\bstatic\\s*\\{", "\\bvolatile\\b", "\\btransient\\b", "\\bnative\\b", "^import (?!java\\.util\\.Arrays;)",
        "\\bequals\\(", "\\bhashCode\\(", "\\btoString\\(", "\\bMath\\.(?!abs|max|min)", "\\bArrays\\.(?!fill)",
        "[^\\x00-\\x7f]", "\\bwhile \\(true\\)", "for \\(;;\\)",
        "^ {4}(?!private |public |@|\\}| |/|\\*|$)",
        "^ {4}private static (?!final |class |interface |[\\w\\[\\]]+ \\w+\\()",
    };

    public static void main(String[] args) throws Exception {
        String source = Files.readString(Path.of("src/main/java/NutsUp.java"), StandardCharsets.UTF_8);
        String code = source.replaceAll("(?s)/\\*.*?\\*/", "").replaceAll("//[^\n]*", "");
        int wrong = 0;
        for (String not : NOT_IN_IT) {
            Matcher found = Pattern.compile(not, Pattern.MULTILINE).matcher(code);
            if (found.find()) {
                System.out.println("found \"" + found.group() + "\", which LANGUAGE.md leaves out");
                wrong++;
            }
        }
        wrong += privateMethodsWithPublicNames(code);
        wrong += tooLong(code);
        wrong += tooMany(code);
        if (wrong > 0) {
            System.exit(1);
        }
    }

    /** Rule 11: methods of some sixty lines at most, of seven parameters at most. */
    private static int tooLong(String code) {
        int wrong = 0;
        String[] lines = code.split("\n");
        for (int l = 0; l < lines.length; l++) {
            Matcher method = Pattern.compile("^( +)(?:[\\w\\[\\]]+ )*\\w+\\(([^)]*)\\) \\{$").matcher(lines[l]);
            if (method.find() && !lines[l].trim().matches("(if|for|while|switch) .*")) {
                int end = l;
                while (!lines[end].equals(method.group(1) + "}")) {
                    end++;
                }
                if (end - l > 60 || method.group(2).split(",").length > 7) {
                    System.out.println("too long: " + lines[l]);
                    wrong++;
                }
            }
        }
        return wrong;
    }

    /** Rule 11: some twelve classes, each with some twenty fields beside its constants. */
    private static int tooMany(String code) {
        int classes = (int) Pattern.compile("\\bclass \\w+").matcher(code).results().count();
        Pattern field = Pattern.compile("^ {4}private (?!static)[^(]*(;| = .*;)$", Pattern.MULTILINE);
        int fields = (int) field.matcher(code).results().count();
        if (classes > 12 || fields > 20) {
            System.out.println(classes + " classes, " + fields + " fields of NutsUp");
        }
        return classes > 12 || fields > 20 ? 1 : 0;
    }

    private static int privateMethodsWithPublicNames(String code) {
        int wrong = 0;
        Matcher publics = Pattern.compile("public (?:int|long) (\\w+)\\(").matcher(code);
        int methods = 0;
        while (publics.find()) {
            methods++;
            String name = publics.group(1);
            if (Pattern.compile("(?<!public )\\b(?:int|long|boolean|void|int\\[\\]) " + name + "\\(").matcher(code).find()) {
                System.out.println("another method bears the name " + name);
                wrong++;
            }
        }
        if (methods != 40) {
            System.out.println(methods + " public methods, due are 40");
            wrong++;
        }
        return wrong;
    }
}
