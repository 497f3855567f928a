/-! loops; the model's history -/
theorem up_loop {σ : Type} (W I : Nat → σ → Prop) (N : Nat) (hs : ∀ k s, k < N → I k s → (∀ s', I (k + 1) s' → W (k + 1) s') → W k s) (he : ∀ s, I N s → W N s) : ∀ k s, k ≤ N → I k s → W k s := by
  have key : ∀ m k s, N - k = m → k ≤ N → I k s → W k s := by
    intro m
    induction m with
    | zero =>
      intro k s h1 h2 h3
      have : k = N := by omega
      subst this
      exact he s h3
    | succ m ih =>
      intro k s h1 h2 h3
      exact hs k s (by omega) h3 fun s' h4 => ih (k + 1) s' (by omega) (by omega) h4
  exact fun k s h1 h2 => key _ k s rfl h1 h2
theorem nI_t {k : Nat} (h : k < 2147483648) : (nI k).toInt = k := nI_toInt h
section
variable {G : xG} {d : Nat} {μ : xM} {Q : xP}
end
