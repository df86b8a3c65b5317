theorem bsF_le {n v : Nat} : ∀ (m i : Nat) (f : Nat → Nat), i + m = n → (∀ k, k < n → f k ≤ v) → ∀ k, k < n → bsF n m i f k ≤ v
  | 0, i, f, _, h => h
  | m + 1, i, f, hi, h => bsF_le m (i + 1) _ (by omega) (bpass_le (M := n) (n - i - 1) 0 f h (by omega))
theorem upG_0 {b : Nat} {h : Nat → Nat} : ∀ k f a, upG b h (fun _ => 0) k f a = a
  | 0, _, _ => rfl
  | k + 1, f, a => by unfold upG; exact upG_0 k (f + 1) _
/-- the figures from the least to the greatest, and back -/
def srt (b n : Nat) : Nat → Nat := bsF (fg b n).length (fg b n).length 0 (fun j => (fg b n).getD j 0)
def spU (b n : Nat) : Nat := upF b (srt b n) (fg b n).length 0 0
def spD (b n : Nat) : Nat := upF b (fun k => srt b n ((fg b n).length - 1 - k)) (fg b n).length 0 0
theorem srt_sorted {b n : Nat} : ∀ p q, p ≤ q → q < (fg b n).length → srt b n p ≤ srt b n q :=
  bsF_sorted _ 0 _ (by omega) (fun p q _ h1 h2 => by omega)
theorem srt_lt {b n : Nat} (h2 : 2 ≤ b) : ∀ k, k < (fg b n).length → srt b n k < b := by
  intro k hk
  have := bsF_le (n := (fg b n).length) (v := b - 1) (fg b n).length 0 (fun j => (fg b n).getD j 0) (by omega) (fun k hk => by have := fg_lt h2 (getD_mem hk); omega) k hk
  unfold srt
  omega
theorem srt_cn {b n d : Nat} : (fg b n).count d = cn (srt b n) d (fg b n).length := by
  unfold srt
  rw [count_cnR, cnR_cn, cn_bsF _ _ _ (by omega)]
theorem spD_ge {b n : Nat} (h2 : 2 ≤ b) : spU b n ≤ spD b n := upF_le h2 _ srt_sorted
theorem sp_0 {b : Nat} : spU b 0 = 0 ∧ spD b 0 = 0 := by
  unfold spU spD srt
  rw [fg_0]
  exact ⟨by simp [upF, bsF, bpass], by simp [upF, bsF, bpass]⟩
theorem up_eqS {b n : Nat} (h2 : 2 ≤ b) (hn : n < 2 ^ 63) : upA b (fun d => (dg b n).count d) b 0 0 = spU b n := by
  by_cases h0 : n = 0
  · subst h0
    rw [sp_0.1, dg_0, upA_G, show (fun d => List.count d ([] : List Nat)) = fun _ => 0 from by funext d; simp, upG_0]
  · rw [← fg_dg h2 hn h0, upA_G, upG_congr (g' := fun d => cnR (srt b n) d (fg b n).length 0) b 0 0 (fun d _ _ => by rw [srt_cn, cnR_cn])]
    exact upG_F b 0 (fg b n).length 0 0 (fun p q _ h1 h3 => srt_sorted p q h1 (by omega)) (fun q _ h1 => by have := srt_lt h2 q (by omega : q < (fg b n).length); omega)
theorem dn_eqS {b n : Nat} (h2 : 2 ≤ b) (hn : n < 2 ^ 63) : dnA b (fun d => (dg b n).count d) b 0 0 = spD b n := by
  by_cases h0 : n = 0
  · subst h0
    rw [sp_0.2, dg_0, dnA_G, show (fun d => List.count (b - 1 - d) ([] : List Nat)) = fun _ => 0 from by funext d; simp, upG_0]
  · have hb : ∀ q, 0 ≤ q → q < 0 + (fg b n).length → srt b n ((fg b n).length - 1 - q) < b := fun q _ hq => srt_lt h2 _ (by omega)
    rw [← fg_dg h2 hn h0, dnA_G, upG_congr (g' := fun d => cnR (fun q => b - 1 - srt b n ((fg b n).length - 1 - q)) d (fg b n).length 0) b 0 0 (fun d _ h1 => by
      show (fg b n).count (b - 1 - d) = _
      rw [srt_cn, ← cnR_rev (n := (fg b n).length) (fg b n).length 0 (by omega), cnR_map (by omega) (fg b n).length 0 hb])]
    rw [upG_F b 0 (fg b n).length 0 0 (fun p q _ h1 h3 => by
      have := srt_sorted (b := b) (n := n) ((fg b n).length - 1 - q) ((fg b n).length - 1 - p) (by omega) (by omega)
      show b - 1 - srt b n ((fg b n).length - 1 - p) ≤ b - 1 - srt b n ((fg b n).length - 1 - q)
      omega) (fun q h1 h3 => by have := hb q h1 h3; omega)]
    refine upF_congr _ 0 0 (fun q h1 h3 => ?_)
    have := hb q h1 h3
    show b - 1 - (b - 1 - srt b n ((fg b n).length - 1 - q)) = srt b n ((fg b n).length - 1 - q)
    omega
theorem x_spreadN {b n : Nat} (h2 : 2 ≤ b) (h10 : b ≤ 10) (hn : n < 2 ^ 63) (σ : Hp) : f_X1_spread (lN n) (nI b) σ = some (lN (spD b n - spU b n), σ) := by
  rw [x_spread h2 h10 hn, dn_eqS h2 hn, up_eqS h2 hn, lN_sub (spD_ge h2)]
theorem m_orderedN {b n : Nat} (h2 : 2 ≤ b) (h10 : b ≤ 10) (hn : n < 2 ^ 63) {σ : Hp} (hσ : hI σ 40 2 = nI b) : ∃ F' : Nat → Int32, f_X12_ordered (lN n) σ = some (lN (spD b n - spU b n), rowI σ 67 F') := by
  obtain ⟨F', h⟩ := m_ordered h2 h10 hn hσ
  refine ⟨F', h.trans ?_⟩
  have := spD_ge (n := n) h2
  unfold spD spU srt at this ⊢
  rw [lN_sub this]
