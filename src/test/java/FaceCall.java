import java.util.stream.Stream;

/** A call of the document's face, asked with two numbers, of which it takes as many as it needs. */
record FaceCall(String name, Check.Call call) {
    static final FaceCall[] CHANGES = {
        new FaceCall("type", (x, c, d) -> x.type(c)),
        new FaceCall("first", RootWeights::first),
        new FaceCall("second", RootWeights::second),
    };
    static final FaceCall[] BELOW = {
        new FaceCall("number", RootWeights::number),
        new FaceCall("size", (x, c, d) -> x.size()),
        new FaceCall("most", (x, c, d) -> x.most()),
        new FaceCall("orbit", RootWeights::orbit),
        new FaceCall("high", RootWeights::high),
        new FaceCall("product", RootWeights::product),
        new FaceCall("kinds", (x, c, d) -> x.kinds()),
        new FaceCall("total", (x, c, d) -> x.total()),
        new FaceCall("even", RootWeights::even),
        new FaceCall("odd", RootWeights::odd),
        new FaceCall("along", RootWeights::along),
    };
    static final FaceCall[] ALL = Stream.of(CHANGES, BELOW).flatMap(Stream::of).toArray(FaceCall[]::new);

    int of(RootWeights x, int c, int d) {
        return call.of(x, c, d);
    }
}
