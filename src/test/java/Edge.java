/** A test of one clause of the document. */
record Edge(String section, String clause, String name, Runnable body) {
}
