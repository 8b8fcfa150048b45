def hshN (f : Int → Int) (p : Int) : Nat → Int
  | 0 => 0
  | k + 1 => if k < 7 then hshN f p k * 27 + f (p + (k : Int)) - 96 else -1
def hsh (f : Int → Int) (p e : Int) : Int := hshN f p (e - p).toNat
theorem hsh_0 (f : Int → Int) (p : Int) : hsh f p p = 0 := by unfold hsh; rw [show (p - p).toNat = 0 by omega]; rfl
theorem hsh_s {f : Int → Int} {p e : Int} (h : p ≤ e) (h7 : e - p < 7) : hsh f p (e + 1) = hsh f p e * 27 + f e - 96 := by
  unfold hsh
  rw [show (e + 1 - p).toNat = (e - p).toNat + 1 by omega]
  show (if (e - p).toNat < 7 then hshN f p (e - p).toNat * 27 + f (p + (((e - p).toNat : Nat) : Int)) - 96 else -1) = _
  rw [if_pos (by omega), show p + (((e - p).toNat : Nat) : Int) = e by omega]
theorem hsh_b {f : Int → Int} {p e : Int} (h7 : 7 ≤ e - p) : hsh f p (e + 1) = -1 := by
  unfold hsh
  rw [show (e + 1 - p).toNat = (e - p).toNat + 1 by omega]
  show (if (e - p).toNat < 7 then hshN f p (e - p).toNat * 27 + f (p + (((e - p).toNat : Nat) : Int)) - 96 else -1) = _
  rw [if_neg (by omega)]
theorem hsh_f {f : Int → Int} {p e : Int} (h : p ≤ e) : (e - p = 0 ∧ hsh f p e = 0) ∨ (e - p = 1 ∧ hsh f p e = f p - 96) ∨ (e - p = 2 ∧ hsh f p e = (f p - 96) * 27 + f (p + 1) - 96) ∨ (e - p = 3 ∧ hsh f p e = ((f p - 96) * 27 + f (p + 1) - 96) * 27 + f (p + 2) - 96) ∨ (e - p = 4 ∧ hsh f p e = (((f p - 96) * 27 + f (p + 1) - 96) * 27 + f (p + 2) - 96) * 27 + f (p + 3) - 96) ∨ (e - p = 5 ∧ hsh f p e = ((((f p - 96) * 27 + f (p + 1) - 96) * 27 + f (p + 2) - 96) * 27 + f (p + 3) - 96) * 27 + f (p + 4) - 96) ∨ (e - p = 6 ∧ hsh f p e = (((((f p - 96) * 27 + f (p + 1) - 96) * 27 + f (p + 2) - 96) * 27 + f (p + 3) - 96) * 27 + f (p + 4) - 96) * 27 + f (p + 5) - 96) ∨ (e - p = 7 ∧ hsh f p e = ((((((f p - 96) * 27 + f (p + 1) - 96) * 27 + f (p + 2) - 96) * 27 + f (p + 3) - 96) * 27 + f (p + 4) - 96) * 27 + f (p + 5) - 96) * 27 + f (p + 6) - 96) ∨ (8 ≤ e - p ∧ hsh f p e = -1) := by
  have h1 : hsh f p (p + 1) = f p - 96 := by rw [hsh_s (by omega) (by omega), hsh_0]; omega
  have h2 : hsh f p (p + 2) = (f p - 96) * 27 + f (p + 1) - 96 := by rw [show p + 2 = p + 1 + 1 by omega, hsh_s (by omega) (by omega), h1]
  have h3 : hsh f p (p + 3) = ((f p - 96) * 27 + f (p + 1) - 96) * 27 + f (p + 2) - 96 := by rw [show p + 3 = p + 2 + 1 by omega, hsh_s (by omega) (by omega), h2]
  have h4 : hsh f p (p + 4) = (((f p - 96) * 27 + f (p + 1) - 96) * 27 + f (p + 2) - 96) * 27 + f (p + 3) - 96 := by rw [show p + 4 = p + 3 + 1 by omega, hsh_s (by omega) (by omega), h3]
  have h5 : hsh f p (p + 5) = ((((f p - 96) * 27 + f (p + 1) - 96) * 27 + f (p + 2) - 96) * 27 + f (p + 3) - 96) * 27 + f (p + 4) - 96 := by rw [show p + 5 = p + 4 + 1 by omega, hsh_s (by omega) (by omega), h4]
  have h6 : hsh f p (p + 6) = (((((f p - 96) * 27 + f (p + 1) - 96) * 27 + f (p + 2) - 96) * 27 + f (p + 3) - 96) * 27 + f (p + 4) - 96) * 27 + f (p + 5) - 96 := by rw [show p + 6 = p + 5 + 1 by omega, hsh_s (by omega) (by omega), h5]
  have h7 : hsh f p (p + 7) = ((((((f p - 96) * 27 + f (p + 1) - 96) * 27 + f (p + 2) - 96) * 27 + f (p + 3) - 96) * 27 + f (p + 4) - 96) * 27 + f (p + 5) - 96) * 27 + f (p + 6) - 96 := by rw [show p + 7 = p + 6 + 1 by omega, hsh_s (by omega) (by omega), h6]
  rcases (show e = p ∨ e = p + 1 ∨ e = p + 2 ∨ e = p + 3 ∨ e = p + 4 ∨ e = p + 5 ∨ e = p + 6 ∨ e = p + 7 ∨ 8 ≤ e - p by omega) with q | q | q | q | q | q | q | q | q
  · left; rw [q, hsh_0]; omega
  · right; left; rw [q, h1]; omega
  · right; right; left; rw [q, h2]; omega
  · right; right; right; left; rw [q, h3]; omega
  · right; right; right; right; left; rw [q, h4]; omega
  · right; right; right; right; right; left; rw [q, h5]; omega
  · right; right; right; right; right; right; left; rw [q, h6]; omega
  · right; right; right; right; right; right; right; left; rw [q, h7]; omega
  · right; right; right; right; right; right; right; right
    refine ⟨q, ?_⟩
    rw [show e = e - 1 + 1 by omega]
    exact hsh_b (by omega)
theorem ltr_at {f : Int → Int} {p e : Int} (hl : ∀ i : Int, p ≤ i → i < e → ltr (f i) = true) : (1 ≤ e - p → 97 ≤ f p ∧ f p ≤ 122) ∧ (2 ≤ e - p → 97 ≤ f (p + 1) ∧ f (p + 1) ≤ 122) ∧ (3 ≤ e - p → 97 ≤ f (p + 2) ∧ f (p + 2) ≤ 122) ∧ (4 ≤ e - p → 97 ≤ f (p + 3) ∧ f (p + 3) ≤ 122) ∧ (5 ≤ e - p → 97 ≤ f (p + 4) ∧ f (p + 4) ≤ 122) ∧ (6 ≤ e - p → 97 ≤ f (p + 5) ∧ f (p + 5) ≤ 122) ∧ (7 ≤ e - p → 97 ≤ f (p + 6) ∧ f (p + 6) ≤ 122) :=
  ⟨fun h => ltr_iff.mp (hl _ (by omega) (by omega)), fun h => ltr_iff.mp (hl _ (by omega) (by omega)), fun h => ltr_iff.mp (hl _ (by omega) (by omega)), fun h => ltr_iff.mp (hl _ (by omega) (by omega)), fun h => ltr_iff.mp (hl _ (by omega) (by omega)), fun h => ltr_iff.mp (hl _ (by omega) (by omega)), fun h => ltr_iff.mp (hl _ (by omega) (by omega))⟩
theorem hsh_rng {f : Int → Int} {p e : Int} (h : p ≤ e) (hl : ∀ i : Int, p ≤ i → i < e → ltr (f i) = true) : -1 ≤ hsh f p e ∧ hsh f p e ≤ 11000000000 := by
  obtain ⟨d0, d1, d2, d3, d4, d5, d6⟩ := ltr_at hl
  rcases hsh_f (f := f) h with ⟨q, r⟩ | ⟨q, r⟩ | ⟨q, r⟩ | ⟨q, r⟩ | ⟨q, r⟩ | ⟨q, r⟩ | ⟨q, r⟩ | ⟨q, r⟩ | ⟨q, r⟩ <;> rw [r]
  · omega
  · have := d0 (by omega); omega
  · have := d0 (by omega); have := d1 (by omega); omega
  · have := d0 (by omega); have := d1 (by omega); have := d2 (by omega); omega
  · have := d0 (by omega); have := d1 (by omega); have := d2 (by omega); have := d3 (by omega); omega
  · have := d0 (by omega); have := d1 (by omega); have := d2 (by omega); have := d3 (by omega); have := d4 (by omega); omega
  · have := d0 (by omega); have := d1 (by omega); have := d2 (by omega); have := d3 (by omega); have := d4 (by omega); have := d5 (by omega); omega
  · have := d0 (by omega); have := d1 (by omega); have := d2 (by omega); have := d3 (by omega); have := d4 (by omega); have := d5 (by omega); have := d6 (by omega); omega
  · omega
theorem hsh_wd0 {f : Int → Int} {p e : Int} (h : p ≤ e) (hl : ∀ i : Int, p ≤ i → i < e → ltr (f i) = true) : hsh f p e = 2160181 ↔ wd0 f p e := by
  obtain ⟨d0, d1, d2, d3, d4, d5, d6⟩ := ltr_at hl
  rcases hsh_f (f := f) h with ⟨q, r⟩ | ⟨q, r⟩ | ⟨q, r⟩ | ⟨q, r⟩ | ⟨q, r⟩ | ⟨q, r⟩ | ⟨q, r⟩ | ⟨q, r⟩ | ⟨q, r⟩
  · rw [r]
    exact ⟨fun x => by exfalso; omega, fun x => by have := x.1; omega⟩
  · have := d0 (by omega); rw [r]
    exact ⟨fun x => by exfalso; omega, fun x => by have := x.1; omega⟩
  · have := d0 (by omega); have := d1 (by omega); rw [r]
    exact ⟨fun x => by exfalso; omega, fun x => by have := x.1; omega⟩
  · have := d0 (by omega); have := d1 (by omega); have := d2 (by omega); rw [r]
    exact ⟨fun x => by exfalso; omega, fun x => by have := x.1; omega⟩
  · have := d0 (by omega); have := d1 (by omega); have := d2 (by omega); have := d3 (by omega); rw [r]
    exact ⟨fun x => by exfalso; omega, fun x => by have := x.1; omega⟩
  · have := d0 (by omega); have := d1 (by omega); have := d2 (by omega); have := d3 (by omega); have := d4 (by omega); rw [r]
    exact ⟨fun x => ⟨by omega, by omega, by omega, by omega, by omega, by omega⟩, fun x => by obtain ⟨x0, x1, x2, x3, x4, x5⟩ := x; omega⟩
  · have := d0 (by omega); have := d1 (by omega); have := d2 (by omega); have := d3 (by omega); have := d4 (by omega); have := d5 (by omega); rw [r]
    exact ⟨fun x => by exfalso; omega, fun x => by have := x.1; omega⟩
  · have := d0 (by omega); have := d1 (by omega); have := d2 (by omega); have := d3 (by omega); have := d4 (by omega); have := d5 (by omega); have := d6 (by omega); rw [r]
    exact ⟨fun x => by exfalso; omega, fun x => by have := x.1; omega⟩
  · have := d0 (by omega); have := d1 (by omega); have := d2 (by omega); have := d3 (by omega); have := d4 (by omega); have := d5 (by omega); have := d6 (by omega); rw [r]
    exact ⟨fun x => by exfalso; omega, fun x => by have := x.1; omega⟩
theorem hsh_wd1 {f : Int → Int} {p e : Int} (h : p ≤ e) (hl : ∀ i : Int, p ≤ i → i < e → ltr (f i) = true) : hsh f p e = 11716 ↔ wd1 f p e := by
  obtain ⟨d0, d1, d2, d3, d4, d5, d6⟩ := ltr_at hl
  rcases hsh_f (f := f) h with ⟨q, r⟩ | ⟨q, r⟩ | ⟨q, r⟩ | ⟨q, r⟩ | ⟨q, r⟩ | ⟨q, r⟩ | ⟨q, r⟩ | ⟨q, r⟩ | ⟨q, r⟩
  · rw [r]
    exact ⟨fun x => by exfalso; omega, fun x => by have := x.1; omega⟩
  · have := d0 (by omega); rw [r]
    exact ⟨fun x => by exfalso; omega, fun x => by have := x.1; omega⟩
  · have := d0 (by omega); have := d1 (by omega); rw [r]
    exact ⟨fun x => by exfalso; omega, fun x => by have := x.1; omega⟩
  · have := d0 (by omega); have := d1 (by omega); have := d2 (by omega); rw [r]
    exact ⟨fun x => ⟨by omega, by omega, by omega, by omega⟩, fun x => by obtain ⟨x0, x1, x2, x3⟩ := x; omega⟩
  · have := d0 (by omega); have := d1 (by omega); have := d2 (by omega); have := d3 (by omega); rw [r]
    exact ⟨fun x => by exfalso; omega, fun x => by have := x.1; omega⟩
  · have := d0 (by omega); have := d1 (by omega); have := d2 (by omega); have := d3 (by omega); have := d4 (by omega); rw [r]
    exact ⟨fun x => by exfalso; omega, fun x => by have := x.1; omega⟩
  · have := d0 (by omega); have := d1 (by omega); have := d2 (by omega); have := d3 (by omega); have := d4 (by omega); have := d5 (by omega); rw [r]
    exact ⟨fun x => by exfalso; omega, fun x => by have := x.1; omega⟩
  · have := d0 (by omega); have := d1 (by omega); have := d2 (by omega); have := d3 (by omega); have := d4 (by omega); have := d5 (by omega); have := d6 (by omega); rw [r]
    exact ⟨fun x => by exfalso; omega, fun x => by have := x.1; omega⟩
  · have := d0 (by omega); have := d1 (by omega); have := d2 (by omega); have := d3 (by omega); have := d4 (by omega); have := d5 (by omega); have := d6 (by omega); rw [r]
    exact ⟨fun x => by exfalso; omega, fun x => by have := x.1; omega⟩
theorem hsh_wd2 {f : Int → Int} {p e : Int} (h : p ≤ e) (hl : ∀ i : Int, p ≤ i → i < e → ltr (f i) = true) : hsh f p e = 355568 ↔ wd2 f p e := by
  obtain ⟨d0, d1, d2, d3, d4, d5, d6⟩ := ltr_at hl
  rcases hsh_f (f := f) h with ⟨q, r⟩ | ⟨q, r⟩ | ⟨q, r⟩ | ⟨q, r⟩ | ⟨q, r⟩ | ⟨q, r⟩ | ⟨q, r⟩ | ⟨q, r⟩ | ⟨q, r⟩
  · rw [r]
    exact ⟨fun x => by exfalso; omega, fun x => by have := x.1; omega⟩
  · have := d0 (by omega); rw [r]
    exact ⟨fun x => by exfalso; omega, fun x => by have := x.1; omega⟩
  · have := d0 (by omega); have := d1 (by omega); rw [r]
    exact ⟨fun x => by exfalso; omega, fun x => by have := x.1; omega⟩
  · have := d0 (by omega); have := d1 (by omega); have := d2 (by omega); rw [r]
    exact ⟨fun x => by exfalso; omega, fun x => by have := x.1; omega⟩
  · have := d0 (by omega); have := d1 (by omega); have := d2 (by omega); have := d3 (by omega); rw [r]
    exact ⟨fun x => ⟨by omega, by omega, by omega, by omega, by omega⟩, fun x => by obtain ⟨x0, x1, x2, x3, x4⟩ := x; omega⟩
  · have := d0 (by omega); have := d1 (by omega); have := d2 (by omega); have := d3 (by omega); have := d4 (by omega); rw [r]
    exact ⟨fun x => by exfalso; omega, fun x => by have := x.1; omega⟩
  · have := d0 (by omega); have := d1 (by omega); have := d2 (by omega); have := d3 (by omega); have := d4 (by omega); have := d5 (by omega); rw [r]
    exact ⟨fun x => by exfalso; omega, fun x => by have := x.1; omega⟩
  · have := d0 (by omega); have := d1 (by omega); have := d2 (by omega); have := d3 (by omega); have := d4 (by omega); have := d5 (by omega); have := d6 (by omega); rw [r]
    exact ⟨fun x => by exfalso; omega, fun x => by have := x.1; omega⟩
  · have := d0 (by omega); have := d1 (by omega); have := d2 (by omega); have := d3 (by omega); have := d4 (by omega); have := d5 (by omega); have := d6 (by omega); rw [r]
    exact ⟨fun x => by exfalso; omega, fun x => by have := x.1; omega⟩
theorem hsh_wd3 {f : Int → Int} {p e : Int} (h : p ≤ e) (hl : ∀ i : Int, p ≤ i → i < e → ltr (f i) = true) : hsh f p e = 50683 ↔ wd3 f p e := by
  obtain ⟨d0, d1, d2, d3, d4, d5, d6⟩ := ltr_at hl
  rcases hsh_f (f := f) h with ⟨q, r⟩ | ⟨q, r⟩ | ⟨q, r⟩ | ⟨q, r⟩ | ⟨q, r⟩ | ⟨q, r⟩ | ⟨q, r⟩ | ⟨q, r⟩ | ⟨q, r⟩
  · rw [r]
    exact ⟨fun x => by exfalso; omega, fun x => by have := x.1; omega⟩
  · have := d0 (by omega); rw [r]
    exact ⟨fun x => by exfalso; omega, fun x => by have := x.1; omega⟩
  · have := d0 (by omega); have := d1 (by omega); rw [r]
    exact ⟨fun x => by exfalso; omega, fun x => by have := x.1; omega⟩
  · have := d0 (by omega); have := d1 (by omega); have := d2 (by omega); rw [r]
    exact ⟨fun x => by exfalso; omega, fun x => by have := x.1; omega⟩
  · have := d0 (by omega); have := d1 (by omega); have := d2 (by omega); have := d3 (by omega); rw [r]
    exact ⟨fun x => ⟨by omega, by omega, by omega, by omega, by omega⟩, fun x => by obtain ⟨x0, x1, x2, x3, x4⟩ := x; omega⟩
  · have := d0 (by omega); have := d1 (by omega); have := d2 (by omega); have := d3 (by omega); have := d4 (by omega); rw [r]
    exact ⟨fun x => by exfalso; omega, fun x => by have := x.1; omega⟩
  · have := d0 (by omega); have := d1 (by omega); have := d2 (by omega); have := d3 (by omega); have := d4 (by omega); have := d5 (by omega); rw [r]
    exact ⟨fun x => by exfalso; omega, fun x => by have := x.1; omega⟩
  · have := d0 (by omega); have := d1 (by omega); have := d2 (by omega); have := d3 (by omega); have := d4 (by omega); have := d5 (by omega); have := d6 (by omega); rw [r]
    exact ⟨fun x => by exfalso; omega, fun x => by have := x.1; omega⟩
  · have := d0 (by omega); have := d1 (by omega); have := d2 (by omega); have := d3 (by omega); have := d4 (by omega); have := d5 (by omega); have := d6 (by omega); rw [r]
    exact ⟨fun x => by exfalso; omega, fun x => by have := x.1; omega⟩
theorem hsh_wd4 {f : Int → Int} {p e : Int} (h : p ≤ e) (hl : ∀ i : Int, p ≤ i → i < e → ltr (f i) = true) : hsh f p e = 267347 ↔ wd4 f p e := by
  obtain ⟨d0, d1, d2, d3, d4, d5, d6⟩ := ltr_at hl
  rcases hsh_f (f := f) h with ⟨q, r⟩ | ⟨q, r⟩ | ⟨q, r⟩ | ⟨q, r⟩ | ⟨q, r⟩ | ⟨q, r⟩ | ⟨q, r⟩ | ⟨q, r⟩ | ⟨q, r⟩
  · rw [r]
    exact ⟨fun x => by exfalso; omega, fun x => by have := x.1; omega⟩
  · have := d0 (by omega); rw [r]
    exact ⟨fun x => by exfalso; omega, fun x => by have := x.1; omega⟩
  · have := d0 (by omega); have := d1 (by omega); rw [r]
    exact ⟨fun x => by exfalso; omega, fun x => by have := x.1; omega⟩
  · have := d0 (by omega); have := d1 (by omega); have := d2 (by omega); rw [r]
    exact ⟨fun x => by exfalso; omega, fun x => by have := x.1; omega⟩
  · have := d0 (by omega); have := d1 (by omega); have := d2 (by omega); have := d3 (by omega); rw [r]
    exact ⟨fun x => ⟨by omega, by omega, by omega, by omega, by omega⟩, fun x => by obtain ⟨x0, x1, x2, x3, x4⟩ := x; omega⟩
  · have := d0 (by omega); have := d1 (by omega); have := d2 (by omega); have := d3 (by omega); have := d4 (by omega); rw [r]
    exact ⟨fun x => by exfalso; omega, fun x => by have := x.1; omega⟩
  · have := d0 (by omega); have := d1 (by omega); have := d2 (by omega); have := d3 (by omega); have := d4 (by omega); have := d5 (by omega); rw [r]
    exact ⟨fun x => by exfalso; omega, fun x => by have := x.1; omega⟩
  · have := d0 (by omega); have := d1 (by omega); have := d2 (by omega); have := d3 (by omega); have := d4 (by omega); have := d5 (by omega); have := d6 (by omega); rw [r]
    exact ⟨fun x => by exfalso; omega, fun x => by have := x.1; omega⟩
  · have := d0 (by omega); have := d1 (by omega); have := d2 (by omega); have := d3 (by omega); have := d4 (by omega); have := d5 (by omega); have := d6 (by omega); rw [r]
    exact ⟨fun x => by exfalso; omega, fun x => by have := x.1; omega⟩
theorem wkd_h {f : Int → Int} {p e : Int} (h : p ≤ e) (hl : ∀ i : Int, p ≤ i → i < e → ltr (f i) = true) : (hsh f p e = 2160181 → wkd f p e = 0) ∧ (hsh f p e = 11716 → wkd f p e = 1) ∧ (hsh f p e = 355568 → wkd f p e = 2) ∧ (hsh f p e = 50683 → wkd f p e = 3) ∧ (hsh f p e = 267347 → wkd f p e = 4) ∧ (¬ hsh f p e = 2160181 → ¬ hsh f p e = 11716 → ¬ hsh f p e = 355568 → ¬ hsh f p e = 50683 → ¬ hsh f p e = 267347 → wkd f p e = -1) := by
  have a0 := hsh_wd0 h hl
  have a1 := hsh_wd1 h hl
  have a2 := hsh_wd2 h hl
  have a3 := hsh_wd3 h hl
  have a4 := hsh_wd4 h hl
  unfold wkd
  refine ⟨fun q => ?_, fun q => ?_, fun q => ?_, fun q => ?_, fun q => ?_, fun q0 q1 q2 q3 q4 => ?_⟩
  · rw [if_pos (a0.mp q)]
  · rw [if_neg (fun x => by have := a0.mpr x; omega), if_pos (a1.mp q)]
  · rw [if_neg (fun x => by have := a0.mpr x; omega), if_neg (fun x => by have := a1.mpr x; omega), if_pos (a2.mp q)]
  · rw [if_neg (fun x => by have := a0.mpr x; omega), if_neg (fun x => by have := a1.mpr x; omega), if_neg (fun x => by have := a2.mpr x; omega), if_pos (a3.mp q)]
  · rw [if_neg (fun x => by have := a0.mpr x; omega), if_neg (fun x => by have := a1.mpr x; omega), if_neg (fun x => by have := a2.mpr x; omega), if_neg (fun x => by have := a3.mpr x; omega), if_pos (a4.mp q)]
  · rw [if_neg (fun x => q0 (a0.mpr x)), if_neg (fun x => q1 (a1.mpr x)), if_neg (fun x => q2 (a2.mpr x)), if_neg (fun x => q3 (a3.mpr x)), if_neg (fun x => q4 (a4.mpr x))]
def rdS (f : Int → Int) (n x : Int) : Prop := sk f n x < n ∧ dgt (f (sk f n x)) = true ∧ rn dgt f n (sk f n x) - sk f n x ≤ 4
def rdV (f : Int → Int) (n x : Int) : Int := num f (sk f n x) (rn dgt f n (sk f n x))
def rdQ (f : Int → Int) (n x lo hi q v e w wr : Int) : Prop := (q = 1 ∧ rdS f n x ∧ v = rdV f n x ∧ (lo ≤ v ∧ v ≤ hi) ∧ e = rn dgt f n (sk f n x) ∧ w = wr) ∨ (q = 0 ∧ ((rdS f n x ∧ ¬ (lo ≤ rdV f n x ∧ rdV f n x ≤ hi) ∧ w = 2 + 8 * sk f n x) ∨ (¬ rdS f n x ∧ w = 1 + 8 * sk f n x)))
theorem rd_ok {f : Int → Int} {n a i T B k lo hi q v e w wr : Int} (i0 : 0 ≤ i) (h : rdQ f n (ps f n a i) lo hi q v e w wr) (hq : ¬ q = 0) (hf : ∀ v : Int, plFits T B (zROLES (k * 4 + i).toNat) v ↔ lo ≤ v ∧ v ≤ hi) : nOk f n T B k a i ∧ v = nv f n a i ∧ e = ps f n a (i + 1) ∧ w = wr ∧ (lo ≤ v ∧ v ≤ hi) := by
  obtain ⟨-, a1, a2, a3, a4, a5⟩ := h.resolve_right (fun x => hq x.1)
  have p1 := ps_succ f n a i0
  have b : v = nv f n a i := by rw [a2]; unfold nv rdV; rw [p1]; rfl
  refine ⟨⟨?_, ?_⟩, b, by rw [a4, p1]; rfl, a5, a3⟩
  · rw [p1]; exact a1
  · rw [hf, ← b]; exact a3
theorem rd_no {f : Int → Int} {n a i T B k lo hi q v e w wr : Int} (i0 : 0 ≤ i) (h : rdQ f n (ps f n a i) lo hi q v e w wr) (hq : q = 0) (hf : ∀ v : Int, plFits T B (zROLES (k * 4 + i).toNat) v ↔ lo ≤ v ∧ v ≤ hi) : ¬ nOk f n T B k a i ∧ nWr f n a i w := by
  have h2 := (h.resolve_left (fun x => by omega)).2
  have p1 := ps_succ f n a i0
  have b : rdV f n (ps f n a i) = nv f n a i := by unfold nv rdV; rw [p1]; rfl
  unfold nOk nWr
  rw [p1]
  rcases h2 with ⟨c1, c2, c3⟩ | ⟨c1, c2⟩
  · exact ⟨fun x => c2 (by rw [b]; exact (hf _).mp x.2), Or.inl ⟨c1, c3⟩⟩
  · exact ⟨fun x => c1 x.1, Or.inr ⟨c1, c2⟩⟩
def stPre (f : Int → Int) (n T B a : Int) : Prop := (¬ sK f n a = -1) ∧ (¬ (sK f n a = 3 ∧ B = 5)) ∧ ∀ i : Int, 0 ≤ i → i < sC f n a → nOk f n T B (sK f n a) (sE f n a) i
theorem pre_of {f : Int → Int} {n T B a k : Int} (hk : sK f n a = k) (h1 : ¬ k = -1) (hB : ¬ (k = 3 ∧ B = 5)) (hn : ∀ i : Int, 0 ≤ i → i < zNUMBERS k.toNat → nOk f n T B k (sE f n a) i) : stPre f n T B a := by
  subst hk
  exact ⟨h1, hB, hn⟩
theorem bad_of {f : Int → Int} {n T B a k i w : Int} (hk : sK f n a = k) (h1 : ¬ k = -1) (hB : ¬ (k = 3 ∧ B = 5)) (hi : 0 ≤ i ∧ i < zNUMBERS k.toNat) (hn : ∀ j : Int, 0 ≤ j → j < i → nOk f n T B k (sE f n a) j) (hb : ¬ nOk f n T B k (sE f n a) i ∧ nWr f n (sE f n a) i w) : sWr f n T B a w := by
  subst hk
  exact Or.inr (Or.inr (Or.inl ⟨h1, hB, i, hi, hn, hb.1, hb.2⟩))
abbrev po_X10_fails (z : zC) (mh : Nat) (xT : Nat) (xD : Nat) (xP : Nat) (xR : Nat) (xC : Nat) (xW : Nat) (xA : Nat) (xH : Nat) (xU : Nat) (xB : Nat) (xI : Nat) (xN : Nat) (xM : Nat) (xY : Nat) (xK : Nat) (xL : Nat) (xE : Nat) (xS : Nat) (m_ra : Int) (m_ca : Int) (m_tp : Int) (m_fa : Int) (m_at : Int) (m_wr : Int) (m_va : Int) (m_pl : Int) (m_st : Int) (m_lo : Int) (m_bl : Int) (m_bc : Int) (m_fo : Int) (m_yl : Int) (m_yw : Int) (m_nu : Int) (m_nl : Int) (m_lu : Int) (m_ll : Int) (m_ln : Int) (kT : Int → Int) (kD : Int → Int) (kP : Int → Int) (kR : Int → Int) (kC : Int → Int) (kW : Int → Int) (kA : Int → Int) (kH : Int → Int) (kU : Int → Int) (kB : Int → Int) (kI : Int → Int) (kN : Int → Int) (kM : Int → Int) (kY : Int → Int) (kK : Int → Int) (kL : Int → Int) (kE : Int → Int) (kS : Int → Int) (k9 : Int) (w9 : Int) : Option Value → va_W → Prop := fun v w => v = some (Value.int (iI 0)) ∧ w = wMod z mh xT xD xP xR xC xW xA xH xU xB xI xN xM xY xK xL xE xS m_ra m_ca m_tp m_fa m_at (k9 + 8 * w9) m_va m_pl m_st m_lo m_bl m_bc m_fo m_yl m_yw m_nu m_nl m_lu m_ll m_ln kT kD kP kR kC kW kA kH kU kB kI kN kM kY kK kL kE kS
abbrev rm_X10_fails : Room := { frames := 1, cells := 0, slots := 0, locals := 40 }
set_option maxHeartbeats 4000000 in
set_option maxRecDepth 100000 in
theorem cc_X10_fails (l : Launch) (z : zC) (mh : Nat) (xT : Nat) (xD : Nat) (xP : Nat) (xR : Nat) (xC : Nat) (xW : Nat) (xA : Nat) (xH : Nat) (xU : Nat) (xB : Nat) (xI : Nat) (xN : Nat) (xM : Nat) (xY : Nat) (xK : Nat) (xL : Nat) (xE : Nat) (xS : Nat) (m_ra : Int) (m_ca : Int) (m_tp : Int) (m_fa : Int) (m_at : Int) (m_wr : Int) (m_va : Int) (m_pl : Int) (m_st : Int) (m_lo : Int) (m_bl : Int) (m_bc : Int) (m_fo : Int) (m_yl : Int) (m_yw : Int) (m_nu : Int) (m_nl : Int) (m_lu : Int) (m_ll : Int) (m_ln : Int) (kT : Int → Int) (kD : Int → Int) (kP : Int → Int) (kR : Int → Int) (kC : Int → Int) (kW : Int → Int) (kA : Int → Int) (kH : Int → Int) (kU : Int → Int) (kB : Int → Int) (kI : Int → Int) (kN : Int → Int) (kM : Int → Int) (kY : Int → Int) (kK : Int → Int) (kL : Int → Int) (kE : Int → Int) (kS : Int → Int) (k9 : Int) (w9 : Int)  : zzMet l yX10_fails cX10_fails 3 (Option.some .boolean) rm_X10_fails z [.ref mh, .int (iI k9), .int (iI w9)] (wMod z mh xT xD xP xR xC xW xA xH xU xB xI xN xM xY xK xL xE xS m_ra m_ca m_tp m_fa m_at m_wr m_va m_pl m_st m_lo m_bl m_bc m_fo m_yl m_yw m_nu m_nl m_lu m_ll m_ln kT kD kP kR kC kW kA kH kU kB kI kN kM kY kK kL kE kS) (po_X10_fails z mh xT xD xP xR xC xW xA xH xU xB xI xN xM xY xK xL xE xS m_ra m_ca m_tp m_fa m_at m_wr m_va m_pl m_st m_lo m_bl m_bc m_fo m_yl m_yw m_nu m_nl m_lu m_ll m_ln kT kD kP kR kC kW kA kH kU kB kI kN kM kY kK kL kE kS k9 w9) := by
  refine zzMet.of (own := RX10) (ls0 := [(0, .ref mh), (1, .int (iI k9)), (2, .int (iI w9))]) (by decide) rfl (Nat.le_of_ble_eq_true rfl) rfl ?_
  intro p e s m below meth c A C hr hnm
  refine zz_aload_n C 0 dX10_fails_0 rfl rfl ?_
  refine zz_iload_n C 1 dX10_fails_1 rfl rfl ?_
  refine zz_bipush C dX10_fails_2 (by decide +kernel) ?_
  refine zz_iload_n C 2 dX10_fails_4 rfl rfl ?_
  refine zz_imul C dX10_fails_5 ?_
  refine zz_iadd C dX10_fails_6 ?_
  refine zz_put (ty := .int) (ws' := wMod z mh xT xD xP xR xC xW xA xH xU xB xI xN xM xY xK xL xE xS m_ra m_ca m_tp m_fa m_at (k9 + (8 * w9)) m_va m_pl m_st m_lo m_bl m_bc m_fo m_yl m_yw m_nu m_nl m_lu m_ll m_ln kT kD kP kR kC kW kA kH kU kB kI kN kM kY kK kL kE kS) C 0 (ci := 10) (k := 8) rfl rfl in_X10 tyX10 tyX10_ok nmX10 (by decide) qw_934 rfl rfl (by decide +kernel) rfl rfl (Nat.le_of_ble_eq_true rfl) rfl dX10_fails_7 ?_
  refine zz_iconst C dX10_fails_10 ?_
  exact zz_zret C hr (by decide +kernel) dX10_fails_11 ⟨zz_vI rfl, rfl⟩
abbrev po_X10_here (z : zC) (mh : Nat) (xT : Nat) (xD : Nat) (xP : Nat) (xR : Nat) (xC : Nat) (xW : Nat) (xA : Nat) (xH : Nat) (xU : Nat) (xB : Nat) (xI : Nat) (xN : Nat) (xM : Nat) (xY : Nat) (xK : Nat) (xL : Nat) (xE : Nat) (xS : Nat) (m_ra : Int) (m_ca : Int) (m_tp : Int) (m_fa : Int) (m_at : Int) (m_wr : Int) (m_va : Int) (m_pl : Int) (m_st : Int) (m_lo : Int) (m_bl : Int) (m_bc : Int) (m_fo : Int) (m_yl : Int) (m_yw : Int) (m_nu : Int) (m_nl : Int) (m_lu : Int) (m_ll : Int) (m_ln : Int) (kT : Int → Int) (kD : Int → Int) (kP : Int → Int) (kR : Int → Int) (kC : Int → Int) (kW : Int → Int) (kA : Int → Int) (kH : Int → Int) (kU : Int → Int) (kB : Int → Int) (kI : Int → Int) (kN : Int → Int) (kM : Int → Int) (kY : Int → Int) (kK : Int → Int) (kL : Int → Int) (kE : Int → Int) (kS : Int → Int) : Option Value → va_W → Prop := fun v w => ∃ (gA : Int), (gA = sk kP m_tp m_at) ∧ (m_at ≤ gA ∧ gA ≤ m_tp) ∧ v = some (Value.int (iI (bAt kP m_tp gA))) ∧ w = wMod z mh xT xD xP xR xC xW xA xH xU xB xI xN xM xY xK xL xE xS m_ra m_ca m_tp m_fa gA m_wr m_va m_pl m_st m_lo m_bl m_bc m_fo m_yl m_yw m_nu m_nl m_lu m_ll m_ln kT kD kP kR kC kW kA kH kU kB kI kN kM kY kK kL kE kS
abbrev rm_X10_here : Room := { frames := 1, cells := 0, slots := 0, locals := 40 }
set_option maxHeartbeats 4000000 in
set_option maxRecDepth 100000 in
theorem cc_X10_here (l : Launch) (z : zC) (mh : Nat) (xT : Nat) (xD : Nat) (xP : Nat) (xR : Nat) (xC : Nat) (xW : Nat) (xA : Nat) (xH : Nat) (xU : Nat) (xB : Nat) (xI : Nat) (xN : Nat) (xM : Nat) (xY : Nat) (xK : Nat) (xL : Nat) (xE : Nat) (xS : Nat) (m_ra : Int) (m_ca : Int) (m_tp : Int) (m_fa : Int) (m_at : Int) (m_wr : Int) (m_va : Int) (m_pl : Int) (m_st : Int) (m_lo : Int) (m_bl : Int) (m_bc : Int) (m_fo : Int) (m_yl : Int) (m_yw : Int) (m_nu : Int) (m_nl : Int) (m_lu : Int) (m_ll : Int) (m_ln : Int) (kT : Int → Int) (kD : Int → Int) (kP : Int → Int) (kR : Int → Int) (kC : Int → Int) (kW : Int → Int) (kA : Int → Int) (kH : Int → Int) (kU : Int → Int) (kB : Int → Int) (kI : Int → Int) (kN : Int → Int) (kM : Int → Int) (kY : Int → Int) (kK : Int → Int) (kL : Int → Int) (kE : Int → Int) (kS : Int → Int) (htp : 0 ≤ m_tp ∧ m_tp ≤ 300) (hbm : ∀ i : Int, 0 ≤ kP i ∧ kP i < 256) (hat : 0 ≤ m_at ∧ m_at ≤ m_tp) : zzMet l yX10_here cX10_here 1 (Option.some .int) rm_X10_here z [.ref mh] (wMod z mh xT xD xP xR xC xW xA xH xU xB xI xN xM xY xK xL xE xS m_ra m_ca m_tp m_fa m_at m_wr m_va m_pl m_st m_lo m_bl m_bc m_fo m_yl m_yw m_nu m_nl m_lu m_ll m_ln kT kD kP kR kC kW kA kH kU kB kI kN kM kY kK kL kE kS) (po_X10_here z mh xT xD xP xR xC xW xA xH xU xB xI xN xM xY xK xL xE xS m_ra m_ca m_tp m_fa m_at m_wr m_va m_pl m_st m_lo m_bl m_bc m_fo m_yl m_yw m_nu m_nl m_lu m_ll m_ln kT kD kP kR kC kW kA kH kU kB kI kN kM kY kK kL kE kS) := by
  refine zzMet.of (own := RX10) (ls0 := [(0, .ref mh)]) (by decide) rfl (Nat.le_of_ble_eq_true rfl) rfl ?_
  intro p e s m below meth c A C hr hnm
  have Lp0 : ∀ (fu9 : Nat) (ga : Int), (m_at ≤ ga ∧ ga ≤ m_tp) → (∀ i : Int, m_at ≤ i → i < ga → blk (kP i) = true) → (m_tp - ga).toNat < fu9 → zzW p l e rm_X10_here s m ([.ref mh] : List Value).toArray below meth c z A 1 (MQ below (zQ z A (po_X10_here z mh xT xD xP xR xC xW xA xH xU xB xI xN xM xY xK xL xE xS m_ra m_ca m_tp m_fa m_at m_wr m_va m_pl m_st m_lo m_bl m_bc m_fo m_yl m_yw m_nu m_nl m_lu m_ll m_ln kT kD kP kR kC kW kA kH kU kB kI kN kM kY kK kL kE kS)) ([.ref mh] : List Value).toArray s 0 0 A) 0 0 (wMod z mh xT xD xP xR xC xW xA xH xU xB xI xN xM xY xK xL xE xS m_ra m_ca m_tp m_fa ga m_wr m_va m_pl m_st m_lo m_bl m_bc m_fo m_yl m_yw m_nu m_nl m_lu m_ll m_ln kT kD kP kR kC kW kA kH kU kB kI kN kM kY kK kL kE kS) [(0, .ref mh)] [] 0 := by
    intro fu9
    induction fu9 with
    | zero => intro ga hg hrun h9; exact absurd h9 (Nat.not_lt_zero _)
    | succ fu9 ih0 =>
      intro ga hg hrun hm0
      have hy0 := hbm ga
      refine zz_aload_n C 0 dX10_here_0 rfl rfl ?_
      refine zz_get C 0 (ci := 10) (k := 7) rfl rfl in_X10 (by decide) qw_933 rfl rfl dX10_here_1 ?_
      refine zz_aload_n C 0 dX10_here_4 rfl rfl ?_
      refine zz_get C 0 (ci := 10) (k := 5) rfl rfl in_X10 (by decide) qw_931 rfl rfl dX10_here_5 ?_
      refine zz_icmp_ge (tgt := 52) C dX10_here_8 (by decide) (by unfold rI; omega) (by unfold rI; omega) (fun c8 => ?_) (fun c8 => ?_)
      · skip
        have hen : ga = m_tp ∨ ¬ blk (kP ga) = true := Or.inl (by omega)
        have hsk : ga = sk kP m_tp m_at := (rn_eq hg.1 hg.2 hrun hen).symm
        refine zz_aload_n C 0 dX10_here_52 rfl rfl ?_
        refine zz_get C 0 (ci := 10) (k := 7) rfl rfl in_X10 (by decide) qw_933 rfl rfl dX10_here_53 ?_
        refine zz_aload_n C 0 dX10_here_56 rfl rfl ?_
        refine zz_get C 0 (ci := 10) (k := 5) rfl rfl in_X10 (by decide) qw_931 rfl rfl dX10_here_57 ?_
        refine zz_icmp_ge (tgt := 75) C dX10_here_60 (by decide) (by unfold rI; omega) (by unfold rI; omega) (fun c60 => ?_) (fun c60 => ?_)
        · skip
          refine zz_iconst C dX10_here_75 ?_
          exact zz_iret C hr dX10_here_76 ⟨ga, hsk, hg, zz_vI (by first | (exfalso; omega) | exact (bAt_in (by omega)).symm | exact (bAt_out (by omega)).symm), rfl⟩
        · skip
          refine zz_aload_n C 0 dX10_here_63 rfl rfl ?_
          refine zz_get C 0 (ci := 10) (k := 4) rfl rfl in_X10 (by decide) qw_930 rfl rfl dX10_here_64 ?_
          refine zz_aload_n C 0 dX10_here_67 rfl rfl ?_
          refine zz_get C 0 (ci := 10) (k := 7) rfl rfl in_X10 (by decide) qw_933 rfl rfl dX10_here_68 ?_
          refine zz_iald C 3 rfl (by omega) (by omega) (by decide) dX10_here_71 ?_
          refine zz_goto (tgt := 76) C dX10_here_72 (by decide) ?_
          exact zz_iret C hr dX10_here_76 ⟨ga, hsk, hg, zz_vI (by first | (exfalso; omega) | exact (bAt_in (by omega)).symm | exact (bAt_out (by omega)).symm), rfl⟩
      · skip
        refine zz_aload_n C 0 dX10_here_11 rfl rfl ?_
        refine zz_get C 0 (ci := 10) (k := 4) rfl rfl in_X10 (by decide) qw_930 rfl rfl dX10_here_12 ?_
        refine zz_aload_n C 0 dX10_here_15 rfl rfl ?_
        refine zz_get C 0 (ci := 10) (k := 7) rfl rfl in_X10 (by decide) qw_933 rfl rfl dX10_here_16 ?_
        refine zz_iald C 3 rfl (by omega) (by omega) (by decide) dX10_here_19 ?_
        refine zz_bipush C dX10_here_20 (by decide +kernel) ?_
        refine zz_icmp_eq (tgt := 39) C dX10_here_22 (by decide) (by unfold rI; omega) (by unfold rI; omega) (fun c22 => ?_) (fun c22 => ?_)
        · skip
          refine zz_aload_n C 0 dX10_here_39 rfl rfl ?_
          refine zz_dup C dX10_here_40 rfl ?_
          refine zz_get C 0 (ci := 10) (k := 7) rfl rfl in_X10 (by decide) qw_933 rfl rfl dX10_here_41 ?_
          refine zz_iconst C dX10_here_44 ?_
          refine zz_iadd C dX10_here_45 ?_
          refine zz_put (ty := .int) (ws' := wMod z mh xT xD xP xR xC xW xA xH xU xB xI xN xM xY xK xL xE xS m_ra m_ca m_tp m_fa (ga + 1) m_wr m_va m_pl m_st m_lo m_bl m_bc m_fo m_yl m_yw m_nu m_nl m_lu m_ll m_ln kT kD kP kR kC kW kA kH kU kB kI kN kM kY kK kL kE kS) C 0 (ci := 10) (k := 7) rfl rfl in_X10 tyX10 tyX10_ok nmX10 (by decide) qw_933 rfl rfl (by decide +kernel) rfl rfl (Nat.le_of_ble_eq_true rfl) rfl dX10_here_46 ?_
          refine zz_goto (tgt := 0) C dX10_here_49 (by decide) ?_
          exact ih0 (ga + 1) (by omega) (run_step hrun (blk_iff.mpr (by omega))) (by omega)
        · skip
          refine zz_aload_n C 0 dX10_here_25 rfl rfl ?_
          refine zz_get C 0 (ci := 10) (k := 4) rfl rfl in_X10 (by decide) qw_930 rfl rfl dX10_here_26 ?_
          refine zz_aload_n C 0 dX10_here_29 rfl rfl ?_
          refine zz_get C 0 (ci := 10) (k := 7) rfl rfl in_X10 (by decide) qw_933 rfl rfl dX10_here_30 ?_
          refine zz_iald C 3 rfl (by omega) (by omega) (by decide) dX10_here_33 ?_
          refine zz_bipush C dX10_here_34 (by decide +kernel) ?_
          refine zz_icmp_ne (tgt := 52) C dX10_here_36 (by decide) (by unfold rI; omega) (by unfold rI; omega) (fun c36 => ?_) (fun c36 => ?_)
          · skip
            have hen : ga = m_tp ∨ ¬ blk (kP ga) = true := Or.inr (fun h => by have := blk_iff.mp h; omega)
            have hsk : ga = sk kP m_tp m_at := (rn_eq hg.1 hg.2 hrun hen).symm
            refine zz_aload_n C 0 dX10_here_52 rfl rfl ?_
            refine zz_get C 0 (ci := 10) (k := 7) rfl rfl in_X10 (by decide) qw_933 rfl rfl dX10_here_53 ?_
            refine zz_aload_n C 0 dX10_here_56 rfl rfl ?_
            refine zz_get C 0 (ci := 10) (k := 5) rfl rfl in_X10 (by decide) qw_931 rfl rfl dX10_here_57 ?_
            refine zz_icmp_ge (tgt := 75) C dX10_here_60 (by decide) (by unfold rI; omega) (by unfold rI; omega) (fun c60 => ?_) (fun c60 => ?_)
            · skip
              refine zz_iconst C dX10_here_75 ?_
              exact zz_iret C hr dX10_here_76 ⟨ga, hsk, hg, zz_vI (by first | (exfalso; omega) | exact (bAt_in (by omega)).symm | exact (bAt_out (by omega)).symm), rfl⟩
            · skip
              refine zz_aload_n C 0 dX10_here_63 rfl rfl ?_
              refine zz_get C 0 (ci := 10) (k := 4) rfl rfl in_X10 (by decide) qw_930 rfl rfl dX10_here_64 ?_
              refine zz_aload_n C 0 dX10_here_67 rfl rfl ?_
              refine zz_get C 0 (ci := 10) (k := 7) rfl rfl in_X10 (by decide) qw_933 rfl rfl dX10_here_68 ?_
              refine zz_iald C 3 rfl (by omega) (by omega) (by decide) dX10_here_71 ?_
              refine zz_goto (tgt := 76) C dX10_here_72 (by decide) ?_
              exact zz_iret C hr dX10_here_76 ⟨ga, hsk, hg, zz_vI (by first | (exfalso; omega) | exact (bAt_in (by omega)).symm | exact (bAt_out (by omega)).symm), rfl⟩
          · skip
            refine zz_aload_n C 0 dX10_here_39 rfl rfl ?_
            refine zz_dup C dX10_here_40 rfl ?_
            refine zz_get C 0 (ci := 10) (k := 7) rfl rfl in_X10 (by decide) qw_933 rfl rfl dX10_here_41 ?_
            refine zz_iconst C dX10_here_44 ?_
            refine zz_iadd C dX10_here_45 ?_
            refine zz_put (ty := .int) (ws' := wMod z mh xT xD xP xR xC xW xA xH xU xB xI xN xM xY xK xL xE xS m_ra m_ca m_tp m_fa (ga + 1) m_wr m_va m_pl m_st m_lo m_bl m_bc m_fo m_yl m_yw m_nu m_nl m_lu m_ll m_ln kT kD kP kR kC kW kA kH kU kB kI kN kM kY kK kL kE kS) C 0 (ci := 10) (k := 7) rfl rfl in_X10 tyX10 tyX10_ok nmX10 (by decide) qw_933 rfl rfl (by decide +kernel) rfl rfl (Nat.le_of_ble_eq_true rfl) rfl dX10_here_46 ?_
            refine zz_goto (tgt := 0) C dX10_here_49 (by decide) ?_
            exact ih0 (ga + 1) (by omega) (run_step hrun (blk_iff.mpr (by omega))) (by omega)
  exact Lp0 _ m_at (by omega) (fun i h0 h1 => by omega) (Nat.lt_succ_self _)
abbrev po_X10_readNumber (z : zC) (mh : Nat) (xT : Nat) (xD : Nat) (xP : Nat) (xR : Nat) (xC : Nat) (xW : Nat) (xA : Nat) (xH : Nat) (xU : Nat) (xB : Nat) (xI : Nat) (xN : Nat) (xM : Nat) (xY : Nat) (xK : Nat) (xL : Nat) (xE : Nat) (xS : Nat) (m_ra : Int) (m_ca : Int) (m_tp : Int) (m_fa : Int) (m_at : Int) (m_wr : Int) (m_va : Int) (m_pl : Int) (m_st : Int) (m_lo : Int) (m_bl : Int) (m_bc : Int) (m_fo : Int) (m_yl : Int) (m_yw : Int) (m_nu : Int) (m_nl : Int) (m_lu : Int) (m_ll : Int) (m_ln : Int) (kT : Int → Int) (kD : Int → Int) (kP : Int → Int) (kR : Int → Int) (kC : Int → Int) (kW : Int → Int) (kA : Int → Int) (kH : Int → Int) (kU : Int → Int) (kB : Int → Int) (kI : Int → Int) (kN : Int → Int) (kM : Int → Int) (kY : Int → Int) (kK : Int → Int) (kL : Int → Int) (kE : Int → Int) (kS : Int → Int) (lo9 : Int) (hi9 : Int) : Option Value → va_W → Prop := fun v w => ∃ (q : Int), ∃ (gA : Int), ∃ (gV : Int), ∃ (gW : Int), (rdQ kP m_tp m_at lo9 hi9 q gV gA gW m_wr) ∧ (0 ≤ gA ∧ gA ≤ m_tp) ∧ v = some (Value.int (iI q)) ∧ w = wMod z mh xT xD xP xR xC xW xA xH xU xB xI xN xM xY xK xL xE xS m_ra m_ca m_tp m_fa gA gW gV m_pl m_st m_lo m_bl m_bc m_fo m_yl m_yw m_nu m_nl m_lu m_ll m_ln kT kD kP kR kC kW kA kH kU kB kI kN kM kY kK kL kE kS
abbrev rm_X10_readNumber : Room := { frames := 2, cells := 0, slots := 0, locals := 62 }
set_option maxHeartbeats 4000000 in
set_option maxRecDepth 100000 in
theorem cc_X10_readNumber (l : Launch) (z : zC) (mh : Nat) (xT : Nat) (xD : Nat) (xP : Nat) (xR : Nat) (xC : Nat) (xW : Nat) (xA : Nat) (xH : Nat) (xU : Nat) (xB : Nat) (xI : Nat) (xN : Nat) (xM : Nat) (xY : Nat) (xK : Nat) (xL : Nat) (xE : Nat) (xS : Nat) (m_ra : Int) (m_ca : Int) (m_tp : Int) (m_fa : Int) (m_at : Int) (m_wr : Int) (m_va : Int) (m_pl : Int) (m_st : Int) (m_lo : Int) (m_bl : Int) (m_bc : Int) (m_fo : Int) (m_yl : Int) (m_yw : Int) (m_nu : Int) (m_nl : Int) (m_lu : Int) (m_ll : Int) (m_ln : Int) (kT : Int → Int) (kD : Int → Int) (kP : Int → Int) (kR : Int → Int) (kC : Int → Int) (kW : Int → Int) (kA : Int → Int) (kH : Int → Int) (kU : Int → Int) (kB : Int → Int) (kI : Int → Int) (kN : Int → Int) (kM : Int → Int) (kY : Int → Int) (kK : Int → Int) (kL : Int → Int) (kE : Int → Int) (kS : Int → Int) (lo9 : Int) (hi9 : Int) (htp : 0 ≤ m_tp ∧ m_tp ≤ 300) (hbm : ∀ i : Int, 0 ≤ kP i ∧ kP i < 256) (hat : 0 ≤ m_at ∧ m_at ≤ m_tp) (hlo : 0 ≤ lo9 ∧ lo9 ≤ 10000) (hhi : -10 ≤ hi9 ∧ hi9 ≤ 10000) : zzMet l yX10_readNumber cX10_readNumber 4 (Option.some .boolean) rm_X10_readNumber z [.ref mh, .int (iI lo9), .int (iI hi9)] (wMod z mh xT xD xP xR xC xW xA xH xU xB xI xN xM xY xK xL xE xS m_ra m_ca m_tp m_fa m_at m_wr m_va m_pl m_st m_lo m_bl m_bc m_fo m_yl m_yw m_nu m_nl m_lu m_ll m_ln kT kD kP kR kC kW kA kH kU kB kI kN kM kY kK kL kE kS) (po_X10_readNumber z mh xT xD xP xR xC xW xA xH xU xB xI xN xM xY xK xL xE xS m_ra m_ca m_tp m_fa m_at m_wr m_va m_pl m_st m_lo m_bl m_bc m_fo m_yl m_yw m_nu m_nl m_lu m_ll m_ln kT kD kP kR kC kW kA kH kU kB kI kN kM kY kK kL kE kS lo9 hi9) := by
  refine zzMet.of (own := RX10) (ls0 := [(0, .ref mh), (1, .int (iI lo9)), (2, .int (iI hi9))]) (by decide) rfl (Nat.le_of_ble_eq_true rfl) rfl ?_
  intro p e s m below meth c A C hr hnm
  refine zz_aload_n C 0 dX10_readNumber_0 rfl rfl ?_
  refine zz_callV (wr := ([] : va_W)) (st := []) C (cc_X10_here l z mh xT xD xP xR xC xW xA xH xU xB xI xN xM xY xK xL xE xS m_ra m_ca m_tp m_fa m_at m_wr m_va m_pl m_st m_lo m_bl m_bc m_fo m_yl m_yw m_nu m_nl m_lu m_ll m_ln kT kD kP kR kC kW kA kH kU kB kI kN kM kY kK kL kE kS (by omega) (by omega) (by omega)) yk_X10_here qw_1132 ⟨by decide, by decide⟩ [0, 1, 2, 3, 4, 5, 6, 7, 8, 9, 10, 11, 12, 13, 14, 15, 16, 17, 18] [] rfl rfl rfl rfl (by decide) 0 10 rfl rfl rfl rfl (Nat.le_of_ble_eq_true rfl) dX10_readNumber_1 ⟨by decide, by decide⟩ ?_
  rintro _ _ ⟨gA_1, hA_1, hgA_1, rfl, rfl⟩
  refine zz_st (st' := [.int (iI (bAt kP m_tp gA_1))]) rfl (zz_ws (ws' := wMod z mh xT xD xP xR xC xW xA xH xU xB xI xN xM xY xK xL xE xS m_ra m_ca m_tp m_fa gA_1 m_wr m_va m_pl m_st m_lo m_bl m_bc m_fo m_yl m_yw m_nu m_nl m_lu m_ll m_ln kT kD kP kR kC kW kA kH kU kB kI kN kM kY kK kL kE kS) rfl ?_)
  have hbr := bAt_rng hbm m_tp gA_1
  have hyr := hbm gA_1
  refine zz_bipush C dX10_readNumber_4 (by decide +kernel) ?_
  refine zz_bipush C dX10_readNumber_6 (by decide +kernel) ?_
  refine zz_callS (wr := wMod z mh xT xD xP xR xC xW xA xH xU xB xI xN xM xY xK xL xE xS m_ra m_ca m_tp m_fa gA_1 m_wr m_va m_pl m_st m_lo m_bl m_bc m_fo m_yl m_yw m_nu m_nl m_lu m_ll m_ln kT kD kP kR kC kW kA kH kU kB kI kN kM kY kK kL kE kS) (st := []) C (cc_X10_in l z (bAt kP m_tp gA_1) 48 57 (by omega) (by omega) (by omega)) yk_X10_in qw_1049 ⟨by decide, by decide⟩ [] [0, 1, 2, 3, 4, 5, 6, 7, 8, 9, 10, 11, 12, 13, 14, 15, 16, 17, 18] rfl rfl rfl rfl (by decide) rfl rfl (Nat.le_of_ble_eq_true rfl) dX10_readNumber_8 ⟨by decide, by decide⟩ ?_
  rintro _ _ ⟨q_8, hq_8, rfl, rfl⟩
  refine zz_st (st' := [.int (iI q_8)]) rfl (zz_ws (ws' := wMod z mh xT xD xP xR xC xW xA xH xU xB xI xN xM xY xK xL xE xS m_ra m_ca m_tp m_fa gA_1 m_wr m_va m_pl m_st m_lo m_bl m_bc m_fo m_yl m_yw m_nu m_nl m_lu m_ll m_ln kT kD kP kR kC kW kA kH kU kB kI kN kM kY kK kL kE kS) rfl ?_)
  refine zz_if_ne (tgt := 24) C dX10_readNumber_11 (by decide) (by unfold rI; omega) (fun c11 => ?_) (fun c11 => ?_)
  · skip
    have hlt : gA_1 < m_tp := by rcases (show gA_1 < m_tp ∨ ¬ gA_1 < m_tp by omega) with h | h; exact h; rw [bAt_out (by omega)] at hq_8; omega
    have hdg : dgt (kP gA_1) = true := dgt_iff.mpr (by rw [bAt_in (by omega)] at hq_8; omega)
    refine zz_aload_n C 0 dX10_readNumber_24 rfl rfl ?_
    refine zz_get C 0 (ci := 10) (k := 7) rfl rfl in_X10 (by decide) qw_933 rfl rfl dX10_readNumber_25 ?_
    refine zz_istore_n (ls' := [(3, .int (iI gA_1)), (0, .ref mh), (1, .int (iI lo9)), (2, .int (iI hi9))]) C dX10_readNumber_28 rfl (by decide) rfl ?_
    refine zz_aload_n C 1 dX10_readNumber_29 rfl rfl ?_
    refine zz_iconst C dX10_readNumber_30 ?_
    refine zz_put (ty := .int) (ws' := wMod z mh xT xD xP xR xC xW xA xH xU xB xI xN xM xY xK xL xE xS m_ra m_ca m_tp m_fa gA_1 m_wr 0 m_pl m_st m_lo m_bl m_bc m_fo m_yl m_yw m_nu m_nl m_lu m_ll m_ln kT kD kP kR kC kW kA kH kU kB kI kN kM kY kK kL kE kS) C 0 (ci := 10) (k := 9) rfl rfl in_X10 tyX10 tyX10_ok nmX10 (by decide) qw_935 rfl rfl (by decide +kernel) rfl rfl (Nat.le_of_ble_eq_true rfl) rfl dX10_readNumber_31 ?_
    have Lp34 : ∀ (fu9 : Nat) (ge : Int) (gv : Int), (gA_1 ≤ ge ∧ ge ≤ m_tp) → (∀ i : Int, gA_1 ≤ i → i < ge → dgt (kP i) = true) → (ge - gA_1 ≤ 4 → gv = num kP gA_1 ge) → (m_tp - ge).toNat < fu9 → zzW p l e rm_X10_readNumber s m ([.ref mh, .int (iI lo9), .int (iI hi9)] : List Value).toArray below meth c z A 4 (MQ below (zQ z A (po_X10_readNumber z mh xT xD xP xR xC xW xA xH xU xB xI xN xM xY xK xL xE xS m_ra m_ca m_tp m_fa m_at m_wr m_va m_pl m_st m_lo m_bl m_bc m_fo m_yl m_yw m_nu m_nl m_lu m_ll m_ln kT kD kP kR kC kW kA kH kU kB kI kN kM kY kK kL kE kS lo9 hi9)) ([.ref mh, .int (iI lo9), .int (iI hi9)] : List Value).toArray s 0 0 A) 0 0 (wMod z mh xT xD xP xR xC xW xA xH xU xB xI xN xM xY xK xL xE xS m_ra m_ca m_tp m_fa ge m_wr gv m_pl m_st m_lo m_bl m_bc m_fo m_yl m_yw m_nu m_nl m_lu m_ll m_ln kT kD kP kR kC kW kA kH kU kB kI kN kM kY kK kL kE kS) [(0, .ref mh), (1, .int (iI lo9)), (2, .int (iI hi9)), (3, .int (iI gA_1))] [] 34 := by
      intro fu9
      induction fu9 with
      | zero => intro ge gv hg hrun hv h9; exact absurd h9 (Nat.not_lt_zero _)
      | succ fu9 ih34 =>
        intro ge gv hg hrun hv hm34
        refine zz_aload_n C 0 dX10_readNumber_34 rfl rfl ?_
        refine zz_get C 0 (ci := 10) (k := 7) rfl rfl in_X10 (by decide) qw_933 rfl rfl dX10_readNumber_35 ?_
        refine zz_aload_n C 0 dX10_readNumber_38 rfl rfl ?_
        refine zz_get C 0 (ci := 10) (k := 5) rfl rfl in_X10 (by decide) qw_931 rfl rfl dX10_readNumber_39 ?_
        refine zz_icmp_ge (tgt := 118) C dX10_readNumber_42 (by decide) (by unfold rI; omega) (by unfold rI; omega) (fun c42 => ?_) (fun c42 => ?_)
        · skip
          have hen : ge = m_tp ∨ ¬ dgt (kP ge) = true := Or.inl (by omega)
          have hen2 : rn dgt kP m_tp gA_1 = ge := rn_eq hg.1 hg.2 hrun hen
          have hrs : rdS kP m_tp m_at ↔ ge - gA_1 ≤ 4 := by unfold rdS; rw [← hA_1, hen2]; exact ⟨fun h => h.2.2, fun h => ⟨hlt, hdg, h⟩⟩
          have hrv : rdV kP m_tp m_at = num kP gA_1 ge := by unfold rdV; rw [← hA_1, hen2]
          have hre : rn dgt kP m_tp (sk kP m_tp m_at) = ge := by rw [← hA_1, hen2]
          refine zz_aload_n C 0 dX10_readNumber_118 rfl rfl ?_
          refine zz_get C 0 (ci := 10) (k := 7) rfl rfl in_X10 (by decide) qw_933 rfl rfl dX10_readNumber_119 ?_
          refine zz_iload_n C 3 dX10_readNumber_122 rfl rfl ?_
          refine zz_isub C dX10_readNumber_123 ?_
          refine zz_iconst C dX10_readNumber_124 ?_
          refine zz_icmp_le (tgt := 135) C dX10_readNumber_125 (by decide) (by unfold rI; omega) (by unfold rI; omega) (fun c125 => ?_) (fun c125 => ?_)
          · skip
            have hnv := hv c125
            have hnr := num_rng hg.1 c125 hrun
            refine zz_aload_n C 0 dX10_readNumber_135 rfl rfl ?_
            refine zz_get C 0 (ci := 10) (k := 9) rfl rfl in_X10 (by decide) qw_935 rfl rfl dX10_readNumber_136 ?_
            refine zz_iload_n C 1 dX10_readNumber_139 rfl rfl ?_
            refine zz_iload_n C 2 dX10_readNumber_140 rfl rfl ?_
            refine zz_callS (wr := wMod z mh xT xD xP xR xC xW xA xH xU xB xI xN xM xY xK xL xE xS m_ra m_ca m_tp m_fa ge m_wr gv m_pl m_st m_lo m_bl m_bc m_fo m_yl m_yw m_nu m_nl m_lu m_ll m_ln kT kD kP kR kC kW kA kH kU kB kI kN kM kY kK kL kE kS) (st := []) C (cc_X10_in l z gv lo9 hi9 (by omega) (by omega) (by omega)) yk_X10_in qw_1049 ⟨by decide, by decide⟩ [] [0, 1, 2, 3, 4, 5, 6, 7, 8, 9, 10, 11, 12, 13, 14, 15, 16, 17, 18] rfl rfl rfl rfl (by decide) rfl rfl (Nat.le_of_ble_eq_true rfl) dX10_readNumber_141 ⟨by decide, by decide⟩ ?_
            rintro _ _ ⟨q_141, hq_141, rfl, rfl⟩
            refine zz_st (st' := [.int (iI q_141)]) rfl (zz_ws (ws' := wMod z mh xT xD xP xR xC xW xA xH xU xB xI xN xM xY xK xL xE xS m_ra m_ca m_tp m_fa ge m_wr gv m_pl m_st m_lo m_bl m_bc m_fo m_yl m_yw m_nu m_nl m_lu m_ll m_ln kT kD kP kR kC kW kA kH kU kB kI kN kM kY kK kL kE kS) rfl ?_)
            refine zz_if_ne (tgt := 156) C dX10_readNumber_144 (by decide) (by unfold rI; omega) (fun c144 => ?_) (fun c144 => ?_)
            · skip
              have hbd : rdQ kP m_tp m_at lo9 hi9 1 gv ge m_wr m_wr := Or.inl ⟨rfl, hrs.mpr c125, by rw [hrv]; exact hnv, by omega, hre.symm, rfl⟩
              refine zz_iconst C dX10_readNumber_156 ?_
              refine zz_goto (tgt := 161) C dX10_readNumber_157 (by decide) ?_
              exact zz_zret C hr (by decide +kernel) dX10_readNumber_161 ⟨_, _, _, _, by first | exact hbd | (exfalso; omega), by omega, rfl, rfl⟩
            · skip
              have hbd : rdQ kP m_tp m_at lo9 hi9 0 gv ge (2 + 8 * gA_1) m_wr := Or.inr ⟨rfl, Or.inl ⟨hrs.mpr c125, by rw [hrv, ← hnv]; omega, by rw [hA_1]⟩⟩
              refine zz_aload_n C 0 dX10_readNumber_147 rfl rfl ?_
              refine zz_iconst C dX10_readNumber_148 ?_
              refine zz_iload_n C 3 dX10_readNumber_149 rfl rfl ?_
              refine zz_callV (wr := ([] : va_W)) (st := []) C (cc_X10_fails l z mh xT xD xP xR xC xW xA xH xU xB xI xN xM xY xK xL xE xS m_ra m_ca m_tp m_fa ge m_wr gv m_pl m_st m_lo m_bl m_bc m_fo m_yl m_yw m_nu m_nl m_lu m_ll m_ln kT kD kP kR kC kW kA kH kU kB kI kN kM kY kK kL kE kS 2 gA_1 ) yk_X10_fails qw_1140 ⟨by decide, by decide⟩ [0, 1, 2, 3, 4, 5, 6, 7, 8, 9, 10, 11, 12, 13, 14, 15, 16, 17, 18] [] rfl rfl rfl rfl (by decide) 0 10 rfl rfl rfl rfl (Nat.le_of_ble_eq_true rfl) dX10_readNumber_150 ⟨by decide, by decide⟩ ?_
              rintro _ _ ⟨rfl, rfl⟩
              refine zz_st (st' := [.int (iI 0)]) rfl (zz_ws (ws' := wMod z mh xT xD xP xR xC xW xA xH xU xB xI xN xM xY xK xL xE xS m_ra m_ca m_tp m_fa ge (2 + 8 * gA_1) gv m_pl m_st m_lo m_bl m_bc m_fo m_yl m_yw m_nu m_nl m_lu m_ll m_ln kT kD kP kR kC kW kA kH kU kB kI kN kM kY kK kL kE kS) rfl ?_)
              refine zz_if_eq (tgt := 160) C dX10_readNumber_153 (by decide) (by unfold rI; omega) (fun c153 => ?_) (fun c153 => ?_)
              · skip
                refine zz_iconst C dX10_readNumber_160 ?_
                exact zz_zret C hr (by decide +kernel) dX10_readNumber_161 ⟨_, _, _, _, by first | exact hbd | (exfalso; omega), by omega, rfl, rfl⟩
              · skip
                refine zz_iconst C dX10_readNumber_156 ?_
                refine zz_goto (tgt := 161) C dX10_readNumber_157 (by decide) ?_
                exact zz_zret C hr (by decide +kernel) dX10_readNumber_161 ⟨_, _, _, _, by first | exact hbd | (exfalso; omega), by omega, rfl, rfl⟩
          · skip
            refine zz_aload_n C 0 dX10_readNumber_128 rfl rfl ?_
            refine zz_iconst C dX10_readNumber_129 ?_
            refine zz_iload_n C 3 dX10_readNumber_130 rfl rfl ?_
            refine zz_callV (wr := ([] : va_W)) (st := []) C (cc_X10_fails l z mh xT xD xP xR xC xW xA xH xU xB xI xN xM xY xK xL xE xS m_ra m_ca m_tp m_fa ge m_wr gv m_pl m_st m_lo m_bl m_bc m_fo m_yl m_yw m_nu m_nl m_lu m_ll m_ln kT kD kP kR kC kW kA kH kU kB kI kN kM kY kK kL kE kS 1 gA_1 ) yk_X10_fails qw_1140 ⟨by decide, by decide⟩ [0, 1, 2, 3, 4, 5, 6, 7, 8, 9, 10, 11, 12, 13, 14, 15, 16, 17, 18] [] rfl rfl rfl rfl (by decide) 0 10 rfl rfl rfl rfl (Nat.le_of_ble_eq_true rfl) dX10_readNumber_131 ⟨by decide, by decide⟩ ?_
            rintro _ _ ⟨rfl, rfl⟩
            refine zz_st (st' := [.int (iI 0)]) rfl (zz_ws (ws' := wMod z mh xT xD xP xR xC xW xA xH xU xB xI xN xM xY xK xL xE xS m_ra m_ca m_tp m_fa ge (1 + 8 * gA_1) gv m_pl m_st m_lo m_bl m_bc m_fo m_yl m_yw m_nu m_nl m_lu m_ll m_ln kT kD kP kR kC kW kA kH kU kB kI kN kM kY kK kL kE kS) rfl ?_)
            exact zz_zret C hr (by decide +kernel) dX10_readNumber_134 ⟨0, _, _, _, Or.inr ⟨rfl, Or.inr ⟨fun h => by have := hrs.mp h; omega, by rw [hA_1]⟩⟩, by omega, rfl, rfl⟩
        · skip
          refine zz_aload_n C 0 dX10_readNumber_45 rfl rfl ?_
          refine zz_get C 0 (ci := 10) (k := 4) rfl rfl in_X10 (by decide) qw_930 rfl rfl dX10_readNumber_46 ?_
          refine zz_aload_n C 0 dX10_readNumber_49 rfl rfl ?_
          refine zz_get C 0 (ci := 10) (k := 7) rfl rfl in_X10 (by decide) qw_933 rfl rfl dX10_readNumber_50 ?_
          refine zz_iald C 3 rfl (by omega) (by omega) (by decide) dX10_readNumber_53 ?_
          refine zz_bipush C dX10_readNumber_54 (by decide +kernel) ?_
          refine zz_bipush C dX10_readNumber_56 (by decide +kernel) ?_
          refine zz_callS (wr := wMod z mh xT xD xP xR xC xW xA xH xU xB xI xN xM xY xK xL xE xS m_ra m_ca m_tp m_fa ge m_wr gv m_pl m_st m_lo m_bl m_bc m_fo m_yl m_yw m_nu m_nl m_lu m_ll m_ln kT kD kP kR kC kW kA kH kU kB kI kN kM kY kK kL kE kS) (st := []) C (cc_X10_in l z (kP ge) 48 57 (by have := hbm ge; omega) (by omega) (by omega)) yk_X10_in qw_1049 ⟨by decide, by decide⟩ [] [0, 1, 2, 3, 4, 5, 6, 7, 8, 9, 10, 11, 12, 13, 14, 15, 16, 17, 18] rfl rfl rfl rfl (by decide) rfl rfl (Nat.le_of_ble_eq_true rfl) dX10_readNumber_58 ⟨by decide, by decide⟩ ?_
          rintro _ _ ⟨q_58, hq_58, rfl, rfl⟩
          refine zz_st (st' := [.int (iI q_58)]) rfl (zz_ws (ws' := wMod z mh xT xD xP xR xC xW xA xH xU xB xI xN xM xY xK xL xE xS m_ra m_ca m_tp m_fa ge m_wr gv m_pl m_st m_lo m_bl m_bc m_fo m_yl m_yw m_nu m_nl m_lu m_ll m_ln kT kD kP kR kC kW kA kH kU kB kI kN kM kY kK kL kE kS) rfl ?_)
          refine zz_if_eq (tgt := 118) C dX10_readNumber_61 (by decide) (by unfold rI; omega) (fun c61 => ?_) (fun c61 => ?_)
          · skip
            have hen : ge = m_tp ∨ ¬ dgt (kP ge) = true := Or.inr (fun h => by have := dgt_iff.mp h; omega)
            have hen2 : rn dgt kP m_tp gA_1 = ge := rn_eq hg.1 hg.2 hrun hen
            have hrs : rdS kP m_tp m_at ↔ ge - gA_1 ≤ 4 := by unfold rdS; rw [← hA_1, hen2]; exact ⟨fun h => h.2.2, fun h => ⟨hlt, hdg, h⟩⟩
            have hrv : rdV kP m_tp m_at = num kP gA_1 ge := by unfold rdV; rw [← hA_1, hen2]
            have hre : rn dgt kP m_tp (sk kP m_tp m_at) = ge := by rw [← hA_1, hen2]
            refine zz_aload_n C 0 dX10_readNumber_118 rfl rfl ?_
            refine zz_get C 0 (ci := 10) (k := 7) rfl rfl in_X10 (by decide) qw_933 rfl rfl dX10_readNumber_119 ?_
            refine zz_iload_n C 3 dX10_readNumber_122 rfl rfl ?_
            refine zz_isub C dX10_readNumber_123 ?_
            refine zz_iconst C dX10_readNumber_124 ?_
            refine zz_icmp_le (tgt := 135) C dX10_readNumber_125 (by decide) (by unfold rI; omega) (by unfold rI; omega) (fun c125 => ?_) (fun c125 => ?_)
            · skip
              have hnv := hv c125
              have hnr := num_rng hg.1 c125 hrun
              refine zz_aload_n C 0 dX10_readNumber_135 rfl rfl ?_
              refine zz_get C 0 (ci := 10) (k := 9) rfl rfl in_X10 (by decide) qw_935 rfl rfl dX10_readNumber_136 ?_
              refine zz_iload_n C 1 dX10_readNumber_139 rfl rfl ?_
              refine zz_iload_n C 2 dX10_readNumber_140 rfl rfl ?_
              refine zz_callS (wr := wMod z mh xT xD xP xR xC xW xA xH xU xB xI xN xM xY xK xL xE xS m_ra m_ca m_tp m_fa ge m_wr gv m_pl m_st m_lo m_bl m_bc m_fo m_yl m_yw m_nu m_nl m_lu m_ll m_ln kT kD kP kR kC kW kA kH kU kB kI kN kM kY kK kL kE kS) (st := []) C (cc_X10_in l z gv lo9 hi9 (by omega) (by omega) (by omega)) yk_X10_in qw_1049 ⟨by decide, by decide⟩ [] [0, 1, 2, 3, 4, 5, 6, 7, 8, 9, 10, 11, 12, 13, 14, 15, 16, 17, 18] rfl rfl rfl rfl (by decide) rfl rfl (Nat.le_of_ble_eq_true rfl) dX10_readNumber_141 ⟨by decide, by decide⟩ ?_
              rintro _ _ ⟨q_141, hq_141, rfl, rfl⟩
              refine zz_st (st' := [.int (iI q_141)]) rfl (zz_ws (ws' := wMod z mh xT xD xP xR xC xW xA xH xU xB xI xN xM xY xK xL xE xS m_ra m_ca m_tp m_fa ge m_wr gv m_pl m_st m_lo m_bl m_bc m_fo m_yl m_yw m_nu m_nl m_lu m_ll m_ln kT kD kP kR kC kW kA kH kU kB kI kN kM kY kK kL kE kS) rfl ?_)
              refine zz_if_ne (tgt := 156) C dX10_readNumber_144 (by decide) (by unfold rI; omega) (fun c144 => ?_) (fun c144 => ?_)
              · skip
                have hbd : rdQ kP m_tp m_at lo9 hi9 1 gv ge m_wr m_wr := Or.inl ⟨rfl, hrs.mpr c125, by rw [hrv]; exact hnv, by omega, hre.symm, rfl⟩
                refine zz_iconst C dX10_readNumber_156 ?_
                refine zz_goto (tgt := 161) C dX10_readNumber_157 (by decide) ?_
                exact zz_zret C hr (by decide +kernel) dX10_readNumber_161 ⟨_, _, _, _, by first | exact hbd | (exfalso; omega), by omega, rfl, rfl⟩
              · skip
                have hbd : rdQ kP m_tp m_at lo9 hi9 0 gv ge (2 + 8 * gA_1) m_wr := Or.inr ⟨rfl, Or.inl ⟨hrs.mpr c125, by rw [hrv, ← hnv]; omega, by rw [hA_1]⟩⟩
                refine zz_aload_n C 0 dX10_readNumber_147 rfl rfl ?_
                refine zz_iconst C dX10_readNumber_148 ?_
                refine zz_iload_n C 3 dX10_readNumber_149 rfl rfl ?_
                refine zz_callV (wr := ([] : va_W)) (st := []) C (cc_X10_fails l z mh xT xD xP xR xC xW xA xH xU xB xI xN xM xY xK xL xE xS m_ra m_ca m_tp m_fa ge m_wr gv m_pl m_st m_lo m_bl m_bc m_fo m_yl m_yw m_nu m_nl m_lu m_ll m_ln kT kD kP kR kC kW kA kH kU kB kI kN kM kY kK kL kE kS 2 gA_1 ) yk_X10_fails qw_1140 ⟨by decide, by decide⟩ [0, 1, 2, 3, 4, 5, 6, 7, 8, 9, 10, 11, 12, 13, 14, 15, 16, 17, 18] [] rfl rfl rfl rfl (by decide) 0 10 rfl rfl rfl rfl (Nat.le_of_ble_eq_true rfl) dX10_readNumber_150 ⟨by decide, by decide⟩ ?_
                rintro _ _ ⟨rfl, rfl⟩
                refine zz_st (st' := [.int (iI 0)]) rfl (zz_ws (ws' := wMod z mh xT xD xP xR xC xW xA xH xU xB xI xN xM xY xK xL xE xS m_ra m_ca m_tp m_fa ge (2 + 8 * gA_1) gv m_pl m_st m_lo m_bl m_bc m_fo m_yl m_yw m_nu m_nl m_lu m_ll m_ln kT kD kP kR kC kW kA kH kU kB kI kN kM kY kK kL kE kS) rfl ?_)
                refine zz_if_eq (tgt := 160) C dX10_readNumber_153 (by decide) (by unfold rI; omega) (fun c153 => ?_) (fun c153 => ?_)
                · skip
                  refine zz_iconst C dX10_readNumber_160 ?_
                  exact zz_zret C hr (by decide +kernel) dX10_readNumber_161 ⟨_, _, _, _, by first | exact hbd | (exfalso; omega), by omega, rfl, rfl⟩
                · skip
                  refine zz_iconst C dX10_readNumber_156 ?_
                  refine zz_goto (tgt := 161) C dX10_readNumber_157 (by decide) ?_
                  exact zz_zret C hr (by decide +kernel) dX10_readNumber_161 ⟨_, _, _, _, by first | exact hbd | (exfalso; omega), by omega, rfl, rfl⟩
            · skip
              refine zz_aload_n C 0 dX10_readNumber_128 rfl rfl ?_
              refine zz_iconst C dX10_readNumber_129 ?_
              refine zz_iload_n C 3 dX10_readNumber_130 rfl rfl ?_
              refine zz_callV (wr := ([] : va_W)) (st := []) C (cc_X10_fails l z mh xT xD xP xR xC xW xA xH xU xB xI xN xM xY xK xL xE xS m_ra m_ca m_tp m_fa ge m_wr gv m_pl m_st m_lo m_bl m_bc m_fo m_yl m_yw m_nu m_nl m_lu m_ll m_ln kT kD kP kR kC kW kA kH kU kB kI kN kM kY kK kL kE kS 1 gA_1 ) yk_X10_fails qw_1140 ⟨by decide, by decide⟩ [0, 1, 2, 3, 4, 5, 6, 7, 8, 9, 10, 11, 12, 13, 14, 15, 16, 17, 18] [] rfl rfl rfl rfl (by decide) 0 10 rfl rfl rfl rfl (Nat.le_of_ble_eq_true rfl) dX10_readNumber_131 ⟨by decide, by decide⟩ ?_
              rintro _ _ ⟨rfl, rfl⟩
              refine zz_st (st' := [.int (iI 0)]) rfl (zz_ws (ws' := wMod z mh xT xD xP xR xC xW xA xH xU xB xI xN xM xY xK xL xE xS m_ra m_ca m_tp m_fa ge (1 + 8 * gA_1) gv m_pl m_st m_lo m_bl m_bc m_fo m_yl m_yw m_nu m_nl m_lu m_ll m_ln kT kD kP kR kC kW kA kH kU kB kI kN kM kY kK kL kE kS) rfl ?_)
              exact zz_zret C hr (by decide +kernel) dX10_readNumber_134 ⟨0, _, _, _, Or.inr ⟨rfl, Or.inr ⟨fun h => by have := hrs.mp h; omega, by rw [hA_1]⟩⟩, by omega, rfl, rfl⟩
          · skip
            refine zz_aload_n C 0 dX10_readNumber_64 rfl rfl ?_
            refine zz_aload_n C 0 dX10_readNumber_65 rfl rfl ?_
            refine zz_get C 0 (ci := 10) (k := 7) rfl rfl in_X10 (by decide) qw_933 rfl rfl dX10_readNumber_66 ?_
            refine zz_iload_n C 3 dX10_readNumber_69 rfl rfl ?_
            refine zz_isub C dX10_readNumber_70 ?_
            refine zz_iconst C dX10_readNumber_71 ?_
            refine zz_icmp_ge (tgt := 98) C dX10_readNumber_72 (by decide) (by unfold rI; omega) (by unfold rI; omega) (fun c72 => ?_) (fun c72 => ?_)
            · skip
              refine zz_aload_n C 0 dX10_readNumber_98 rfl rfl ?_
              refine zz_get C 0 (ci := 10) (k := 9) rfl rfl in_X10 (by decide) qw_935 rfl rfl dX10_readNumber_99 ?_
              refine zz_put (ty := .int) (ws' := wMod z mh xT xD xP xR xC xW xA xH xU xB xI xN xM xY xK xL xE xS m_ra m_ca m_tp m_fa ge m_wr gv m_pl m_st m_lo m_bl m_bc m_fo m_yl m_yw m_nu m_nl m_lu m_ll m_ln kT kD kP kR kC kW kA kH kU kB kI kN kM kY kK kL kE kS) C 0 (ci := 10) (k := 9) rfl rfl in_X10 tyX10 tyX10_ok nmX10 (by decide) qw_935 rfl rfl (by decide +kernel) rfl rfl (Nat.le_of_ble_eq_true rfl) rfl dX10_readNumber_102 ?_
              refine zz_aload_n C 0 dX10_readNumber_105 rfl rfl ?_
              refine zz_dup C dX10_readNumber_106 rfl ?_
              refine zz_get C 0 (ci := 10) (k := 7) rfl rfl in_X10 (by decide) qw_933 rfl rfl dX10_readNumber_107 ?_
              refine zz_iconst C dX10_readNumber_110 ?_
              refine zz_iadd C dX10_readNumber_111 ?_
              refine zz_put (ty := .int) (ws' := wMod z mh xT xD xP xR xC xW xA xH xU xB xI xN xM xY xK xL xE xS m_ra m_ca m_tp m_fa (ge + 1) m_wr gv m_pl m_st m_lo m_bl m_bc m_fo m_yl m_yw m_nu m_nl m_lu m_ll m_ln kT kD kP kR kC kW kA kH kU kB kI kN kM kY kK kL kE kS) C 0 (ci := 10) (k := 7) rfl rfl in_X10 tyX10 tyX10_ok nmX10 (by decide) qw_933 rfl rfl (by decide +kernel) rfl rfl (Nat.le_of_ble_eq_true rfl) rfl dX10_readNumber_112 ?_
              refine zz_goto (tgt := 34) C dX10_readNumber_115 (by decide) ?_
              exact ih34 (ge + 1) gv (by omega) (run_step hrun (dgt_iff.mpr (by omega))) (fun h => by first | (exfalso; omega) | (rw [num_succ _ hg.1, ← hv (by omega)]; omega)) (by omega)
            · skip
              refine zz_bipush C dX10_readNumber_75 (by decide +kernel) ?_
              refine zz_aload_n C 0 dX10_readNumber_77 rfl rfl ?_
              refine zz_get C 0 (ci := 10) (k := 9) rfl rfl in_X10 (by decide) qw_935 rfl rfl dX10_readNumber_78 ?_
              refine zz_imul C dX10_readNumber_81 ?_
              refine zz_aload_n C 0 dX10_readNumber_82 rfl rfl ?_
              refine zz_get C 0 (ci := 10) (k := 4) rfl rfl in_X10 (by decide) qw_930 rfl rfl dX10_readNumber_83 ?_
              refine zz_aload_n C 0 dX10_readNumber_86 rfl rfl ?_
              refine zz_get C 0 (ci := 10) (k := 7) rfl rfl in_X10 (by decide) qw_933 rfl rfl dX10_readNumber_87 ?_
              refine zz_iald C 3 rfl (by omega) (by omega) (by decide) dX10_readNumber_90 ?_
              refine zz_iadd C dX10_readNumber_91 ?_
              refine zz_bipush C dX10_readNumber_92 (by decide +kernel) ?_
              refine zz_isub C dX10_readNumber_94 ?_
              refine zz_goto (tgt := 102) C dX10_readNumber_95 (by decide) ?_
              refine zz_put (ty := .int) (ws' := wMod z mh xT xD xP xR xC xW xA xH xU xB xI xN xM xY xK xL xE xS m_ra m_ca m_tp m_fa ge m_wr (((10 * gv) + (kP ge)) - 48) m_pl m_st m_lo m_bl m_bc m_fo m_yl m_yw m_nu m_nl m_lu m_ll m_ln kT kD kP kR kC kW kA kH kU kB kI kN kM kY kK kL kE kS) C 0 (ci := 10) (k := 9) rfl rfl in_X10 tyX10 tyX10_ok nmX10 (by decide) qw_935 rfl rfl (by decide +kernel) rfl rfl (Nat.le_of_ble_eq_true rfl) rfl dX10_readNumber_102 ?_
              refine zz_aload_n C 0 dX10_readNumber_105 rfl rfl ?_
              refine zz_dup C dX10_readNumber_106 rfl ?_
              refine zz_get C 0 (ci := 10) (k := 7) rfl rfl in_X10 (by decide) qw_933 rfl rfl dX10_readNumber_107 ?_
              refine zz_iconst C dX10_readNumber_110 ?_
              refine zz_iadd C dX10_readNumber_111 ?_
              refine zz_put (ty := .int) (ws' := wMod z mh xT xD xP xR xC xW xA xH xU xB xI xN xM xY xK xL xE xS m_ra m_ca m_tp m_fa (ge + 1) m_wr (((10 * gv) + (kP ge)) - 48) m_pl m_st m_lo m_bl m_bc m_fo m_yl m_yw m_nu m_nl m_lu m_ll m_ln kT kD kP kR kC kW kA kH kU kB kI kN kM kY kK kL kE kS) C 0 (ci := 10) (k := 7) rfl rfl in_X10 tyX10 tyX10_ok nmX10 (by decide) qw_933 rfl rfl (by decide +kernel) rfl rfl (Nat.le_of_ble_eq_true rfl) rfl dX10_readNumber_112 ?_
              refine zz_goto (tgt := 34) C dX10_readNumber_115 (by decide) ?_
              exact ih34 (ge + 1) (((10 * gv) + (kP ge)) - 48) (by omega) (run_step hrun (dgt_iff.mpr (by omega))) (fun h => by first | (exfalso; omega) | (rw [num_succ _ hg.1, ← hv (by omega)]; omega)) (by omega)
    refine zz_loc (ls' := [(0, .ref mh), (1, .int (iI lo9)), (2, .int (iI hi9)), (3, .int (iI gA_1))]) [1, 2, 3, 0] rfl ?_
    exact Lp34 _ gA_1 0 (by omega) (fun i h0 h1 => by omega) (fun _ => (num_0 _ _).symm) (Nat.lt_succ_self _)
  · skip
    have hno : ¬ rdS kP m_tp m_at := fun h => by have h1 := h.1; have h2 := dgt_iff.mp h.2.1; rw [← hA_1] at h1 h2; rw [bAt_in (by omega)] at hq_8; omega
    refine zz_aload_n C 0 dX10_readNumber_14 rfl rfl ?_
    refine zz_iconst C dX10_readNumber_15 ?_
    refine zz_aload_n C 0 dX10_readNumber_16 rfl rfl ?_
    refine zz_get C 0 (ci := 10) (k := 7) rfl rfl in_X10 (by decide) qw_933 rfl rfl dX10_readNumber_17 ?_
    refine zz_callV (wr := ([] : va_W)) (st := []) C (cc_X10_fails l z mh xT xD xP xR xC xW xA xH xU xB xI xN xM xY xK xL xE xS m_ra m_ca m_tp m_fa gA_1 m_wr m_va m_pl m_st m_lo m_bl m_bc m_fo m_yl m_yw m_nu m_nl m_lu m_ll m_ln kT kD kP kR kC kW kA kH kU kB kI kN kM kY kK kL kE kS 1 gA_1 ) yk_X10_fails qw_1140 ⟨by decide, by decide⟩ [0, 1, 2, 3, 4, 5, 6, 7, 8, 9, 10, 11, 12, 13, 14, 15, 16, 17, 18] [] rfl rfl rfl rfl (by decide) 0 10 rfl rfl rfl rfl (Nat.le_of_ble_eq_true rfl) dX10_readNumber_20 ⟨by decide, by decide⟩ ?_
    rintro _ _ ⟨rfl, rfl⟩
    refine zz_st (st' := [.int (iI 0)]) rfl (zz_ws (ws' := wMod z mh xT xD xP xR xC xW xA xH xU xB xI xN xM xY xK xL xE xS m_ra m_ca m_tp m_fa gA_1 (1 + 8 * gA_1) m_va m_pl m_st m_lo m_bl m_bc m_fo m_yl m_yw m_nu m_nl m_lu m_ll m_ln kT kD kP kR kC kW kA kH kU kB kI kN kM kY kK kL kE kS) rfl ?_)
    exact zz_zret C hr (by decide +kernel) dX10_readNumber_23 ⟨0, _, _, _, Or.inr ⟨rfl, Or.inr ⟨hno, by rw [hA_1]⟩⟩, by omega, rfl, rfl⟩
abbrev po_X10_reads (z : zC) (mh : Nat) (xT : Nat) (xD : Nat) (xP : Nat) (xR : Nat) (xC : Nat) (xW : Nat) (xA : Nat) (xH : Nat) (xU : Nat) (xB : Nat) (xI : Nat) (xN : Nat) (xM : Nat) (xY : Nat) (xK : Nat) (xL : Nat) (xE : Nat) (xS : Nat) (m_ra : Int) (m_ca : Int) (m_tp : Int) (m_fa : Int) (m_at : Int) (m_wr : Int) (m_va : Int) (m_pl : Int) (m_st : Int) (m_lo : Int) (m_bl : Int) (m_bc : Int) (m_fo : Int) (m_yl : Int) (m_yw : Int) (m_nu : Int) (m_nl : Int) (m_lu : Int) (m_ll : Int) (m_ln : Int) (kT : Int → Int) (kD : Int → Int) (kP : Int → Int) (kR : Int → Int) (kC : Int → Int) (kW : Int → Int) (kA : Int → Int) (kH : Int → Int) (kU : Int → Int) (kB : Int → Int) (kI : Int → Int) (kN : Int → Int) (kM : Int → Int) (kY : Int → Int) (kK : Int → Int) (kL : Int → Int) (kE : Int → Int) (kS : Int → Int) (k9 : Int) (lo9 : Int) (hi9 : Int) : Option Value → va_W → Prop := fun v w => ∃ (q : Int), ∃ (gA : Int), ∃ (gV : Int), ∃ (gW : Int), (rdQ kP m_tp m_at lo9 hi9 q gV gA gW m_wr) ∧ (0 ≤ gA ∧ gA ≤ m_tp) ∧ v = some (Value.int (iI q)) ∧ w = wMod z mh xT xD xP xR xC xW xA xH xU xB xI xN xM xY xK xL xE xS m_ra m_ca m_tp m_fa gA gW gV m_pl m_st m_lo m_bl m_bc m_fo m_yl m_yw m_nu m_nl m_lu m_ll m_ln kT kD kP (zup kR k9 gV) kC kW kA kH kU kB kI kN kM kY kK kL kE kS
abbrev rm_X10_reads : Room := { frames := 3, cells := 0, slots := 0, locals := 85 }
set_option maxHeartbeats 4000000 in
set_option maxRecDepth 100000 in
theorem cc_X10_reads (l : Launch) (z : zC) (mh : Nat) (xT : Nat) (xD : Nat) (xP : Nat) (xR : Nat) (xC : Nat) (xW : Nat) (xA : Nat) (xH : Nat) (xU : Nat) (xB : Nat) (xI : Nat) (xN : Nat) (xM : Nat) (xY : Nat) (xK : Nat) (xL : Nat) (xE : Nat) (xS : Nat) (m_ra : Int) (m_ca : Int) (m_tp : Int) (m_fa : Int) (m_at : Int) (m_wr : Int) (m_va : Int) (m_pl : Int) (m_st : Int) (m_lo : Int) (m_bl : Int) (m_bc : Int) (m_fo : Int) (m_yl : Int) (m_yw : Int) (m_nu : Int) (m_nl : Int) (m_lu : Int) (m_ll : Int) (m_ln : Int) (kT : Int → Int) (kD : Int → Int) (kP : Int → Int) (kR : Int → Int) (kC : Int → Int) (kW : Int → Int) (kA : Int → Int) (kH : Int → Int) (kU : Int → Int) (kB : Int → Int) (kI : Int → Int) (kN : Int → Int) (kM : Int → Int) (kY : Int → Int) (kK : Int → Int) (kL : Int → Int) (kE : Int → Int) (kS : Int → Int) (k9 : Int) (lo9 : Int) (hi9 : Int) (htp : 0 ≤ m_tp ∧ m_tp ≤ 300) (hbm : ∀ i : Int, 0 ≤ kP i ∧ kP i < 256) (hat : 0 ≤ m_at ∧ m_at ≤ m_tp) (hlo : 0 ≤ lo9 ∧ lo9 ≤ 10000) (hhi : -10 ≤ hi9 ∧ hi9 ≤ 10000) (hk9 : 0 ≤ k9 ∧ k9 < 4) : zzMet l yX10_reads cX10_reads 5 (Option.some .boolean) rm_X10_reads z [.ref mh, .int (iI k9), .int (iI lo9), .int (iI hi9)] (wMod z mh xT xD xP xR xC xW xA xH xU xB xI xN xM xY xK xL xE xS m_ra m_ca m_tp m_fa m_at m_wr m_va m_pl m_st m_lo m_bl m_bc m_fo m_yl m_yw m_nu m_nl m_lu m_ll m_ln kT kD kP kR kC kW kA kH kU kB kI kN kM kY kK kL kE kS) (po_X10_reads z mh xT xD xP xR xC xW xA xH xU xB xI xN xM xY xK xL xE xS m_ra m_ca m_tp m_fa m_at m_wr m_va m_pl m_st m_lo m_bl m_bc m_fo m_yl m_yw m_nu m_nl m_lu m_ll m_ln kT kD kP kR kC kW kA kH kU kB kI kN kM kY kK kL kE kS k9 lo9 hi9) := by
  refine zzMet.of (own := RX10) (ls0 := [(0, .ref mh), (1, .int (iI k9)), (2, .int (iI lo9)), (3, .int (iI hi9))]) (by decide) rfl (Nat.le_of_ble_eq_true rfl) rfl ?_
  intro p e s m below meth c A C hr hnm
  refine zz_aload_n C 0 dX10_reads_0 rfl rfl ?_
  refine zz_iload_n C 2 dX10_reads_1 rfl rfl ?_
  refine zz_iload_n C 3 dX10_reads_2 rfl rfl ?_
  refine zz_callV (wr := ([] : va_W)) (st := []) C (cc_X10_readNumber l z mh xT xD xP xR xC xW xA xH xU xB xI xN xM xY xK xL xE xS m_ra m_ca m_tp m_fa m_at m_wr m_va m_pl m_st m_lo m_bl m_bc m_fo m_yl m_yw m_nu m_nl m_lu m_ll m_ln kT kD kP kR kC kW kA kH kU kB kI kN kM kY kK kL kE kS lo9 hi9 (by omega) (by omega) (by omega) (by omega) (by omega)) yk_X10_readNumber qw_1152 ⟨by decide, by decide⟩ [0, 1, 2, 3, 4, 5, 6, 7, 8, 9, 10, 11, 12, 13, 14, 15, 16, 17, 18] [] rfl rfl rfl rfl (by decide) 0 10 rfl rfl rfl rfl (Nat.le_of_ble_eq_true rfl) dX10_reads_3 ⟨by decide, by decide⟩ ?_
  rintro _ _ ⟨q_3, gA_3, gV_3, gW_3, hq_3, hgA_3, rfl, rfl⟩
  refine zz_st (st' := [.int (iI q_3)]) rfl (zz_ws (ws' := wMod z mh xT xD xP xR xC xW xA xH xU xB xI xN xM xY xK xL xE xS m_ra m_ca m_tp m_fa gA_3 gW_3 gV_3 m_pl m_st m_lo m_bl m_bc m_fo m_yl m_yw m_nu m_nl m_lu m_ll m_ln kT kD kP kR kC kW kA kH kU kB kI kN kM kY kK kL kE kS) rfl ?_)
  refine zz_istore (ls' := [(4, .int (iI q_3)), (0, .ref mh), (1, .int (iI k9)), (2, .int (iI lo9)), (3, .int (iI hi9))]) C dX10_reads_6 (by decide) rfl ?_
  refine zz_aload_n C 1 dX10_reads_8 rfl rfl ?_
  refine zz_get C 0 (ci := 10) (k := 12) rfl rfl in_X10 (by decide) qw_938 rfl rfl dX10_reads_9 ?_
  refine zz_iload_n C 2 dX10_reads_12 rfl rfl ?_
  refine zz_aload_n C 1 dX10_reads_13 rfl rfl ?_
  refine zz_get C 0 (ci := 10) (k := 9) rfl rfl in_X10 (by decide) qw_935 rfl rfl dX10_reads_14 ?_
  refine zz_iast (ws' := wMod z mh xT xD xP xR xC xW xA xH xU xB xI xN xM xY xK xL xE xS m_ra m_ca m_tp m_fa gA_3 gW_3 gV_3 m_pl m_st m_lo m_bl m_bc m_fo m_yl m_yw m_nu m_nl m_lu m_ll m_ln kT kD kP (zup kR k9 gV_3) kC kW kA kH kU kB kI kN kM kY kK kL kE kS) C 4 rfl (by omega) (by omega) (by decide) rfl dX10_reads_17 ?_
  refine zz_iload C 0 dX10_reads_18 rfl ?_
  exact zz_zret C hr (zz_bool (by rcases hq_3 with h | h; exact Or.inr h.1; exact Or.inl h.1)) dX10_reads_20 ⟨q_3, _, _, _, hq_3, hgA_3, rfl, rfl⟩
abbrev po_X10_readWord (z : zC) (mh : Nat) (xT : Nat) (xD : Nat) (xP : Nat) (xR : Nat) (xC : Nat) (xW : Nat) (xA : Nat) (xH : Nat) (xU : Nat) (xB : Nat) (xI : Nat) (xN : Nat) (xM : Nat) (xY : Nat) (xK : Nat) (xL : Nat) (xE : Nat) (xS : Nat) (m_ra : Int) (m_ca : Int) (m_tp : Int) (m_fa : Int) (m_at : Int) (m_wr : Int) (m_va : Int) (m_pl : Int) (m_st : Int) (m_lo : Int) (m_bl : Int) (m_bc : Int) (m_fo : Int) (m_yl : Int) (m_yw : Int) (m_nu : Int) (m_nl : Int) (m_lu : Int) (m_ll : Int) (m_ln : Int) (kT : Int → Int) (kD : Int → Int) (kP : Int → Int) (kR : Int → Int) (kC : Int → Int) (kW : Int → Int) (kA : Int → Int) (kH : Int → Int) (kU : Int → Int) (kB : Int → Int) (kI : Int → Int) (kN : Int → Int) (kM : Int → Int) (kY : Int → Int) (kK : Int → Int) (kL : Int → Int) (kE : Int → Int) (kS : Int → Int) : Option Value → va_W → Prop := fun v w => ∃ (gA : Int), (gA = rn ltr kP m_tp m_at) ∧ v = some (Value.long (iL (hsh kP m_at gA))) ∧ w = wMod z mh xT xD xP xR xC xW xA xH xU xB xI xN xM xY xK xL xE xS m_ra m_ca m_tp m_fa gA m_wr m_va m_at m_st m_lo m_bl m_bc m_fo m_yl m_yw m_nu m_nl m_lu m_ll m_ln kT kD kP kR kC kW kA kH kU kB kI kN kM kY kK kL kE kS
abbrev rm_X10_readWord : Room := { frames := 2, cells := 0, slots := 0, locals := 62 }
set_option maxHeartbeats 4000000 in
set_option maxRecDepth 100000 in
theorem cc_X10_readWord (l : Launch) (z : zC) (mh : Nat) (xT : Nat) (xD : Nat) (xP : Nat) (xR : Nat) (xC : Nat) (xW : Nat) (xA : Nat) (xH : Nat) (xU : Nat) (xB : Nat) (xI : Nat) (xN : Nat) (xM : Nat) (xY : Nat) (xK : Nat) (xL : Nat) (xE : Nat) (xS : Nat) (m_ra : Int) (m_ca : Int) (m_tp : Int) (m_fa : Int) (m_at : Int) (m_wr : Int) (m_va : Int) (m_pl : Int) (m_st : Int) (m_lo : Int) (m_bl : Int) (m_bc : Int) (m_fo : Int) (m_yl : Int) (m_yw : Int) (m_nu : Int) (m_nl : Int) (m_lu : Int) (m_ll : Int) (m_ln : Int) (kT : Int → Int) (kD : Int → Int) (kP : Int → Int) (kR : Int → Int) (kC : Int → Int) (kW : Int → Int) (kA : Int → Int) (kH : Int → Int) (kU : Int → Int) (kB : Int → Int) (kI : Int → Int) (kN : Int → Int) (kM : Int → Int) (kY : Int → Int) (kK : Int → Int) (kL : Int → Int) (kE : Int → Int) (kS : Int → Int) (htp : 0 ≤ m_tp ∧ m_tp ≤ 300) (hbm : ∀ i : Int, 0 ≤ kP i ∧ kP i < 256) (hat : 0 ≤ m_at ∧ m_at ≤ m_tp) : zzMet l yX10_readWord cX10_readWord 4 (Option.some .long) rm_X10_readWord z [.ref mh] (wMod z mh xT xD xP xR xC xW xA xH xU xB xI xN xM xY xK xL xE xS m_ra m_ca m_tp m_fa m_at m_wr m_va m_pl m_st m_lo m_bl m_bc m_fo m_yl m_yw m_nu m_nl m_lu m_ll m_ln kT kD kP kR kC kW kA kH kU kB kI kN kM kY kK kL kE kS) (po_X10_readWord z mh xT xD xP xR xC xW xA xH xU xB xI xN xM xY xK xL xE xS m_ra m_ca m_tp m_fa m_at m_wr m_va m_pl m_st m_lo m_bl m_bc m_fo m_yl m_yw m_nu m_nl m_lu m_ll m_ln kT kD kP kR kC kW kA kH kU kB kI kN kM kY kK kL kE kS) := by
  refine zzMet.of (own := RX10) (ls0 := [(0, .ref mh)]) (by decide) rfl (Nat.le_of_ble_eq_true rfl) rfl ?_
  intro p e s m below meth c A C hr hnm
  refine zz_lconst (a := 0) C dX10_readWord_0 (by decide +kernel) ?_
  refine zz_lstore_n (ls' := [(1, .long (iL 0)), (0, .ref mh)]) C dX10_readWord_1 rfl (by decide) rfl ?_
  refine zz_iconst C dX10_readWord_2 ?_
  refine zz_istore_n (ls' := [(3, .int (iI 0)), (1, .long (iL 0)), (0, .ref mh)]) C dX10_readWord_3 rfl (by decide) rfl ?_
  refine zz_aload_n C 2 dX10_readWord_4 rfl rfl ?_
  refine zz_aload_n C 2 dX10_readWord_5 rfl rfl ?_
  refine zz_get C 0 (ci := 10) (k := 7) rfl rfl in_X10 (by decide) qw_933 rfl rfl dX10_readWord_6 ?_
  refine zz_put (ty := .int) (ws' := wMod z mh xT xD xP xR xC xW xA xH xU xB xI xN xM xY xK xL xE xS m_ra m_ca m_tp m_fa m_at m_wr m_va m_at m_st m_lo m_bl m_bc m_fo m_yl m_yw m_nu m_nl m_lu m_ll m_ln kT kD kP kR kC kW kA kH kU kB kI kN kM kY kK kL kE kS) C 0 (ci := 10) (k := 10) rfl rfl in_X10 tyX10 tyX10_ok nmX10 (by decide) qw_936 rfl rfl (by decide +kernel) rfl rfl (Nat.le_of_ble_eq_true rfl) rfl dX10_readWord_9 ?_
  have Lp12 : ∀ (fu9 : Nat) (ge : Int) (gw : Int) (gn : Int), (m_at ≤ ge ∧ ge ≤ m_tp) → (∀ i : Int, m_at ≤ i → i < ge → ltr (kP i) = true) → (gw = hsh kP m_at ge) → (gn = ge - m_at) → (m_tp - ge).toNat < fu9 → zzW p l e rm_X10_readWord s m ([.ref mh] : List Value).toArray below meth c z A 4 (MQ below (zQ z A (po_X10_readWord z mh xT xD xP xR xC xW xA xH xU xB xI xN xM xY xK xL xE xS m_ra m_ca m_tp m_fa m_at m_wr m_va m_pl m_st m_lo m_bl m_bc m_fo m_yl m_yw m_nu m_nl m_lu m_ll m_ln kT kD kP kR kC kW kA kH kU kB kI kN kM kY kK kL kE kS)) ([.ref mh] : List Value).toArray s 0 0 A) 0 0 (wMod z mh xT xD xP xR xC xW xA xH xU xB xI xN xM xY xK xL xE xS m_ra m_ca m_tp m_fa ge m_wr m_va m_at m_st m_lo m_bl m_bc m_fo m_yl m_yw m_nu m_nl m_lu m_ll m_ln kT kD kP kR kC kW kA kH kU kB kI kN kM kY kK kL kE kS) [(0, .ref mh), (1, .long (iL gw)), (3, .int (iI gn))] [] 12 := by
    intro fu9
    induction fu9 with
    | zero => intro ge gw gn hg hrun hw hn h9; exact absurd h9 (Nat.not_lt_zero _)
    | succ fu9 ih12 =>
      intro ge gw gn hg hrun hw hn hm12
      have hy0 := hbm ge
      refine zz_aload_n C 0 dX10_readWord_12 rfl rfl ?_
      refine zz_get C 0 (ci := 10) (k := 7) rfl rfl in_X10 (by decide) qw_933 rfl rfl dX10_readWord_13 ?_
      refine zz_aload_n C 0 dX10_readWord_16 rfl rfl ?_
      refine zz_get C 0 (ci := 10) (k := 5) rfl rfl in_X10 (by decide) qw_931 rfl rfl dX10_readWord_17 ?_
      refine zz_icmp_ge (tgt := 91) C dX10_readWord_20 (by decide) (by unfold rI; omega) (by unfold rI; omega) (fun c20 => ?_) (fun c20 => ?_)
      · skip
        have hen : ge = m_tp ∨ ¬ ltr (kP ge) = true := Or.inl (by omega)
        refine zz_lload_n C 1 dX10_readWord_91 rfl rfl ?_
        exact zz_lret C hr dX10_readWord_92 ⟨ge, (rn_eq hg.1 hg.2 hrun hen).symm, zz_vL hw, rfl⟩
      · skip
        refine zz_aload_n C 0 dX10_readWord_23 rfl rfl ?_
        refine zz_get C 0 (ci := 10) (k := 4) rfl rfl in_X10 (by decide) qw_930 rfl rfl dX10_readWord_24 ?_
        refine zz_aload_n C 0 dX10_readWord_27 rfl rfl ?_
        refine zz_get C 0 (ci := 10) (k := 7) rfl rfl in_X10 (by decide) qw_933 rfl rfl dX10_readWord_28 ?_
        refine zz_iald C 3 rfl (by omega) (by omega) (by decide) dX10_readWord_31 ?_
        refine zz_bipush C dX10_readWord_32 (by decide +kernel) ?_
        refine zz_bipush C dX10_readWord_34 (by decide +kernel) ?_
        refine zz_callS (wr := wMod z mh xT xD xP xR xC xW xA xH xU xB xI xN xM xY xK xL xE xS m_ra m_ca m_tp m_fa ge m_wr m_va m_at m_st m_lo m_bl m_bc m_fo m_yl m_yw m_nu m_nl m_lu m_ll m_ln kT kD kP kR kC kW kA kH kU kB kI kN kM kY kK kL kE kS) (st := []) C (cc_X10_in l z (kP ge) 97 122 (by omega) (by omega) (by omega)) yk_X10_in qw_1049 ⟨by decide, by decide⟩ [] [0, 1, 2, 3, 4, 5, 6, 7, 8, 9, 10, 11, 12, 13, 14, 15, 16, 17, 18] rfl rfl rfl rfl (by decide) rfl rfl (Nat.le_of_ble_eq_true rfl) dX10_readWord_36 ⟨by decide, by decide⟩ ?_
        rintro _ _ ⟨q_36, hq_36, rfl, rfl⟩
        refine zz_st (st' := [.int (iI q_36)]) rfl (zz_ws (ws' := wMod z mh xT xD xP xR xC xW xA xH xU xB xI xN xM xY xK xL xE xS m_ra m_ca m_tp m_fa ge m_wr m_va m_at m_st m_lo m_bl m_bc m_fo m_yl m_yw m_nu m_nl m_lu m_ll m_ln kT kD kP kR kC kW kA kH kU kB kI kN kM kY kK kL kE kS) rfl ?_)
        refine zz_if_eq (tgt := 91) C dX10_readWord_39 (by decide) (by unfold rI; omega) (fun c39 => ?_) (fun c39 => ?_)
        · skip
          have hen : ge = m_tp ∨ ¬ ltr (kP ge) = true := Or.inr (fun h => by have := ltr_iff.mp h; omega)
          refine zz_lload_n C 1 dX10_readWord_91 rfl rfl ?_
          exact zz_lret C hr dX10_readWord_92 ⟨ge, (rn_eq hg.1 hg.2 hrun hen).symm, zz_vL hw, rfl⟩
        · skip
          refine zz_iload_n C 2 dX10_readWord_42 rfl rfl ?_
          refine zz_bipush C dX10_readWord_43 (by decide +kernel) ?_
          refine zz_icmp_ge (tgt := 71) C dX10_readWord_45 (by decide) (by unfold rI; omega) (by unfold rI; omega) (fun c45 => ?_) (fun c45 => ?_)
          · skip
            refine zz_ldc2 (a := (-1)) C qw_1150 (by decide +kernel) dX10_readWord_71 ?_
            refine zz_lstore_n (ls' := [(1, .long (iL (-1))), (0, .ref mh), (3, .int (iI gn))]) C dX10_readWord_74 rfl (by decide) rfl ?_
            refine zz_iinc (ls' := [(3, .int (iI (gn + 1))), (1, .long (iL (-1))), (0, .ref mh)]) C 2 dX10_readWord_75 rfl (by decide) rfl ?_
            refine zz_aload_n C 2 dX10_readWord_78 rfl rfl ?_
            refine zz_dup C dX10_readWord_79 rfl ?_
            refine zz_get C 0 (ci := 10) (k := 7) rfl rfl in_X10 (by decide) qw_933 rfl rfl dX10_readWord_80 ?_
            refine zz_iconst C dX10_readWord_83 ?_
            refine zz_iadd C dX10_readWord_84 ?_
            refine zz_put (ty := .int) (ws' := wMod z mh xT xD xP xR xC xW xA xH xU xB xI xN xM xY xK xL xE xS m_ra m_ca m_tp m_fa (ge + 1) m_wr m_va m_at m_st m_lo m_bl m_bc m_fo m_yl m_yw m_nu m_nl m_lu m_ll m_ln kT kD kP kR kC kW kA kH kU kB kI kN kM kY kK kL kE kS) C 0 (ci := 10) (k := 7) rfl rfl in_X10 tyX10 tyX10_ok nmX10 (by decide) qw_933 rfl rfl (by decide +kernel) rfl rfl (Nat.le_of_ble_eq_true rfl) rfl dX10_readWord_85 ?_
            refine zz_goto (tgt := 12) C dX10_readWord_88 (by decide) ?_
            refine zz_loc (ls' := [(0, .ref mh), (1, .long (iL (-1))), (3, .int (iI (gn + 1)))]) [2, 1, 0] rfl ?_
            exact ih12 (ge + 1) (-1) (gn + 1) (by omega) (run_step hrun (ltr_iff.mpr (by omega))) (by first | (rw [hsh_s hg.1 (by omega), ← hw]; done) | (rw [hsh_s hg.1 (by omega), ← hw]; omega) | (rw [hsh_b (by omega)])) (by omega) (by omega)
          · skip
            refine zz_lload_n C 1 dX10_readWord_48 rfl rfl ?_
            refine zz_ldc2 (a := 27) C qw_1148 (by decide +kernel) dX10_readWord_49 ?_
            refine zz_lmul C dX10_readWord_52 ?_
            refine zz_aload_n C 0 dX10_readWord_53 rfl rfl ?_
            refine zz_get C 0 (ci := 10) (k := 4) rfl rfl in_X10 (by decide) qw_930 rfl rfl dX10_readWord_54 ?_
            refine zz_aload_n C 0 dX10_readWord_57 rfl rfl ?_
            refine zz_get C 0 (ci := 10) (k := 7) rfl rfl in_X10 (by decide) qw_933 rfl rfl dX10_readWord_58 ?_
            refine zz_iald C 3 rfl (by omega) (by omega) (by decide) dX10_readWord_61 ?_
            refine zz_i2l C dX10_readWord_62 (by unfold rI; omega) ?_
            refine zz_ladd C dX10_readWord_63 ?_
            refine zz_ldc2 (a := 96) C qw_1149 (by decide +kernel) dX10_readWord_64 ?_
            refine zz_lsub C dX10_readWord_67 ?_
            refine zz_goto (tgt := 74) C dX10_readWord_68 (by decide) ?_
            refine zz_lstore_n (ls' := [(1, .long (iL (((gw * 27) + (kP ge)) - 96))), (0, .ref mh), (3, .int (iI gn))]) C dX10_readWord_74 rfl (by decide) rfl ?_
            refine zz_iinc (ls' := [(3, .int (iI (gn + 1))), (1, .long (iL (((gw * 27) + (kP ge)) - 96))), (0, .ref mh)]) C 2 dX10_readWord_75 rfl (by decide) rfl ?_
            refine zz_aload_n C 2 dX10_readWord_78 rfl rfl ?_
            refine zz_dup C dX10_readWord_79 rfl ?_
            refine zz_get C 0 (ci := 10) (k := 7) rfl rfl in_X10 (by decide) qw_933 rfl rfl dX10_readWord_80 ?_
            refine zz_iconst C dX10_readWord_83 ?_
            refine zz_iadd C dX10_readWord_84 ?_
            refine zz_put (ty := .int) (ws' := wMod z mh xT xD xP xR xC xW xA xH xU xB xI xN xM xY xK xL xE xS m_ra m_ca m_tp m_fa (ge + 1) m_wr m_va m_at m_st m_lo m_bl m_bc m_fo m_yl m_yw m_nu m_nl m_lu m_ll m_ln kT kD kP kR kC kW kA kH kU kB kI kN kM kY kK kL kE kS) C 0 (ci := 10) (k := 7) rfl rfl in_X10 tyX10 tyX10_ok nmX10 (by decide) qw_933 rfl rfl (by decide +kernel) rfl rfl (Nat.le_of_ble_eq_true rfl) rfl dX10_readWord_85 ?_
            refine zz_goto (tgt := 12) C dX10_readWord_88 (by decide) ?_
            refine zz_loc (ls' := [(0, .ref mh), (1, .long (iL (((gw * 27) + (kP ge)) - 96))), (3, .int (iI (gn + 1)))]) [2, 1, 0] rfl ?_
            exact ih12 (ge + 1) (((gw * 27) + (kP ge)) - 96) (gn + 1) (by omega) (run_step hrun (ltr_iff.mpr (by omega))) (by first | (rw [hsh_s hg.1 (by omega), ← hw]; done) | (rw [hsh_s hg.1 (by omega), ← hw]; omega) | (rw [hsh_b (by omega)])) (by omega) (by omega)
  refine zz_loc (ls' := [(0, .ref mh), (1, .long (iL 0)), (3, .int (iI 0))]) [2, 1, 0] rfl ?_
  exact Lp12 _ m_at 0 0 (by omega) (fun i h0 h1 => by omega) (hsh_0 _ _).symm (by omega) (Nat.lt_succ_self _)
