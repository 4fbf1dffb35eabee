/** Placeholder. */
final class Model {
}
