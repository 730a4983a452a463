theorem wt_ac1 : Cond.native arraycopyName ∈ wt := wt_t 376 (by decide +kernel) (by decide +kernel)
theorem wt_ac2 : Cond.static arraycopyName ∈ wt := wt_t 375 (by decide +kernel) (by decide +kernel)
theorem wt_ac3 : Cond.initialized "java/lang/System" ∈ wt := wt_t 9 (by decide +kernel) (by decide +kernel)
theorem wt_mth : Cond.initialized "java/lang/Math" ∈ wt := wt_t 7 (by decide +kernel) (by decide +kernel)
theorem wt_mx1 : Cond.static Lib.Math.max.name ∈ wt := wt_t 300 (by decide +kernel) (by decide +kernel)
theorem wt_mx2 : Cond.code Lib.Math.max.name Lib.Math.max.code 2 (some .int) ∈ wt := wt_t 301 (by decide +kernel) (by decide +kernel)
theorem wt_mn1 : Cond.static Lib.Math.min.name ∈ wt := wt_t 238 (by decide +kernel) (by decide +kernel)
theorem wt_mn2 : Cond.code Lib.Math.min.name Lib.Math.min.code 2 (some .int) ∈ wt := wt_t 239 (by decide +kernel) (by decide +kernel)
section MROWS
variable {X : Cx} {cc : ByteArray} {own : String} {sd : Nat → Prop} {nL : Nat} {R : Room} {l : Launch} {σ : Mem} {pc q i : Nat} {lv : LV} {rest : List Value} {ρ : Type} {res : ρ}
theorem wsWset {σ : Mem} {i : Nat} {r : Nat → Int32} {e : va_E} {E : En} {mk : Mem → Mem} {H : Heap} (hs : sd i) (hi : i < 62) (hm : MK mk sd) (hc : cel E i r = e) (hP : va_P (eD E) vwCl ((wsW E (mk σ)).set i (eA E i, e)) H) : va_P (eD E) vwCl (wsW E (mk (setr σ i r))) H := by
  rw [hm.2 σ i r hs, ← ws_set hi hc]
  exact hP
theorem cel_X0 {E : En} {i : Nat} {r : Nat → Int32} (hk : ck i = 0) : cel E i r = .inr (0, [.int (r 0), .int (r 1), .int (r 2), .int (r 3), .int (r 4), .int (r 5)]) := by
  unfold cel
  rw [hk]
  rfl
theorem cell_X0 {E : En} {mk : Mem → Mem} {i : Nat} {σ : Mem} (hk : kd sd i 0) (hm : MK mk sd) : (wsW E (mk σ))[i]? = some (eA E i, .inr (0, [.int (σ i 0), .int (σ i 1), .int (σ i 2), .int (σ i 3), .int (σ i 4), .int (σ i 5)])) := by
  rw [ws_get hk.2.1, hm.1 σ i hk.1, cel_X0 hk.2.2]
theorem gf_X0_0 (o : OK X cc own sd nL R l) (hk : kd sd i 0) {index : Nat} (hf : Cond.fieldLink own index "CurtainHouse$Curtain" "kind" "I" ∈ wt) (d : decode cc pc = .ok (.getfield index, 3)) (hq : pc + 3 = q) (k : G X σ q lv (.int (σ i 0) :: rest)) : G X σ pc lv (.ref (eA (xE X) i) :: rest) := fun H locs ls hP hS hl => by
  subst hq
  exact va_get (ci := 0) (C := RX0) (T := TX0) (N := 6) o.x o.b o.ts in_X0 o.ow o.ck.1 hP i (cell_X0 hk o.mk) rfl 0 (by decide) (o.ts _ hf) (fun _ h => h) rfl d (k H locs ls hP hS hl)
theorem gp_X0_0 (o : OK X cc own sd nL R l) (hk : kd sd i 0) {index : Nat} (hf : Cond.fieldLink own index "CurtainHouse$Curtain" "kind" "I" ∈ wt) (d : decode cc pc = .ok (.putfield index, 3)) (hq : pc + 3 = q) {v : Int32} {K : Mem → Option ρ} (h : vW σ i 0 v K = some res) (k : ∀ σ, K σ = some res → G X σ q lv rest) : G X σ pc lv (.int v :: .ref (eA (xE X) i) :: rest) := fun H locs ls hP hS hl => by
  subst hq
  refine va_put (ci := 0) (C := RX0) (T := TX0) (N := 6) (ty := .int) (v := .int v) o.x o.b o.ts in_X0 tyX0 tyX0_ok nmX0 o.ow o.ck.1 hP (o.D _) hS i (cell_X0 hk o.mk) rfl 0 (by decide) (o.ts _ hf) (fun _ h => h) rfl (by decide +kernel) rfl rfl (Nat.le_of_ble_eq_true rfl) d (fun H1 locs1 hP1 _ hS1 => ?_)
  exact k (up2 σ i 0 v) h H1 locs1 ls (wsWset (r := upd (σ i) 0 v) hk.1 hk.2.1 o.mk (by rw [cel_X0 hk.2.2]; rfl) hP1) hS1 hl
theorem gf_X0_1 (o : OK X cc own sd nL R l) (hk : kd sd i 0) {index : Nat} (hf : Cond.fieldLink own index "CurtainHouse$Curtain" "mood" "I" ∈ wt) (d : decode cc pc = .ok (.getfield index, 3)) (hq : pc + 3 = q) (k : G X σ q lv (.int (σ i 1) :: rest)) : G X σ pc lv (.ref (eA (xE X) i) :: rest) := fun H locs ls hP hS hl => by
  subst hq
  exact va_get (ci := 0) (C := RX0) (T := TX0) (N := 6) o.x o.b o.ts in_X0 o.ow o.ck.1 hP i (cell_X0 hk o.mk) rfl 1 (by decide) (o.ts _ hf) (fun _ h => h) rfl d (k H locs ls hP hS hl)
theorem gp_X0_1 (o : OK X cc own sd nL R l) (hk : kd sd i 0) {index : Nat} (hf : Cond.fieldLink own index "CurtainHouse$Curtain" "mood" "I" ∈ wt) (d : decode cc pc = .ok (.putfield index, 3)) (hq : pc + 3 = q) {v : Int32} {K : Mem → Option ρ} (h : vW σ i 1 v K = some res) (k : ∀ σ, K σ = some res → G X σ q lv rest) : G X σ pc lv (.int v :: .ref (eA (xE X) i) :: rest) := fun H locs ls hP hS hl => by
  subst hq
  refine va_put (ci := 0) (C := RX0) (T := TX0) (N := 6) (ty := .int) (v := .int v) o.x o.b o.ts in_X0 tyX0 tyX0_ok nmX0 o.ow o.ck.1 hP (o.D _) hS i (cell_X0 hk o.mk) rfl 1 (by decide) (o.ts _ hf) (fun _ h => h) rfl (by decide +kernel) rfl rfl (Nat.le_of_ble_eq_true rfl) d (fun H1 locs1 hP1 _ hS1 => ?_)
  exact k (up2 σ i 1 v) h H1 locs1 ls (wsWset (r := upd (σ i) 1 v) hk.1 hk.2.1 o.mk (by rw [cel_X0 hk.2.2]; rfl) hP1) hS1 hl
theorem gf_X0_2 (o : OK X cc own sd nL R l) (hk : kd sd i 0) {index : Nat} (hf : Cond.fieldLink own index "CurtainHouse$Curtain" "likes" "I" ∈ wt) (d : decode cc pc = .ok (.getfield index, 3)) (hq : pc + 3 = q) (k : G X σ q lv (.int (σ i 2) :: rest)) : G X σ pc lv (.ref (eA (xE X) i) :: rest) := fun H locs ls hP hS hl => by
  subst hq
  exact va_get (ci := 0) (C := RX0) (T := TX0) (N := 6) o.x o.b o.ts in_X0 o.ow o.ck.1 hP i (cell_X0 hk o.mk) rfl 2 (by decide) (o.ts _ hf) (fun _ h => h) rfl d (k H locs ls hP hS hl)
theorem gp_X0_2 (o : OK X cc own sd nL R l) (hk : kd sd i 0) {index : Nat} (hf : Cond.fieldLink own index "CurtainHouse$Curtain" "likes" "I" ∈ wt) (d : decode cc pc = .ok (.putfield index, 3)) (hq : pc + 3 = q) {v : Int32} {K : Mem → Option ρ} (h : vW σ i 2 v K = some res) (k : ∀ σ, K σ = some res → G X σ q lv rest) : G X σ pc lv (.int v :: .ref (eA (xE X) i) :: rest) := fun H locs ls hP hS hl => by
  subst hq
  refine va_put (ci := 0) (C := RX0) (T := TX0) (N := 6) (ty := .int) (v := .int v) o.x o.b o.ts in_X0 tyX0 tyX0_ok nmX0 o.ow o.ck.1 hP (o.D _) hS i (cell_X0 hk o.mk) rfl 2 (by decide) (o.ts _ hf) (fun _ h => h) rfl (by decide +kernel) rfl rfl (Nat.le_of_ble_eq_true rfl) d (fun H1 locs1 hP1 _ hS1 => ?_)
  exact k (up2 σ i 2 v) h H1 locs1 ls (wsWset (r := upd (σ i) 2 v) hk.1 hk.2.1 o.mk (by rw [cel_X0 hk.2.2]; rfl) hP1) hS1 hl
theorem gf_X0_3 (o : OK X cc own sd nL R l) (hk : kd sd i 0) {index : Nat} (hf : Cond.fieldLink own index "CurtainHouse$Curtain" "high" "I" ∈ wt) (d : decode cc pc = .ok (.getfield index, 3)) (hq : pc + 3 = q) (k : G X σ q lv (.int (σ i 3) :: rest)) : G X σ pc lv (.ref (eA (xE X) i) :: rest) := fun H locs ls hP hS hl => by
  subst hq
  exact va_get (ci := 0) (C := RX0) (T := TX0) (N := 6) o.x o.b o.ts in_X0 o.ow o.ck.1 hP i (cell_X0 hk o.mk) rfl 3 (by decide) (o.ts _ hf) (fun _ h => h) rfl d (k H locs ls hP hS hl)
theorem gp_X0_3 (o : OK X cc own sd nL R l) (hk : kd sd i 0) {index : Nat} (hf : Cond.fieldLink own index "CurtainHouse$Curtain" "high" "I" ∈ wt) (d : decode cc pc = .ok (.putfield index, 3)) (hq : pc + 3 = q) {v : Int32} {K : Mem → Option ρ} (h : vW σ i 3 v K = some res) (k : ∀ σ, K σ = some res → G X σ q lv rest) : G X σ pc lv (.int v :: .ref (eA (xE X) i) :: rest) := fun H locs ls hP hS hl => by
  subst hq
  refine va_put (ci := 0) (C := RX0) (T := TX0) (N := 6) (ty := .int) (v := .int v) o.x o.b o.ts in_X0 tyX0 tyX0_ok nmX0 o.ow o.ck.1 hP (o.D _) hS i (cell_X0 hk o.mk) rfl 3 (by decide) (o.ts _ hf) (fun _ h => h) rfl (by decide +kernel) rfl rfl (Nat.le_of_ble_eq_true rfl) d (fun H1 locs1 hP1 _ hS1 => ?_)
  exact k (up2 σ i 3 v) h H1 locs1 ls (wsWset (r := upd (σ i) 3 v) hk.1 hk.2.1 o.mk (by rw [cel_X0 hk.2.2]; rfl) hP1) hS1 hl
theorem gf_X0_4 (o : OK X cc own sd nL R l) (hk : kd sd i 0) {index : Nat} (hf : Cond.fieldLink own index "CurtainHouse$Curtain" "tied" "I" ∈ wt) (d : decode cc pc = .ok (.getfield index, 3)) (hq : pc + 3 = q) (k : G X σ q lv (.int (σ i 4) :: rest)) : G X σ pc lv (.ref (eA (xE X) i) :: rest) := fun H locs ls hP hS hl => by
  subst hq
  exact va_get (ci := 0) (C := RX0) (T := TX0) (N := 6) o.x o.b o.ts in_X0 o.ow o.ck.1 hP i (cell_X0 hk o.mk) rfl 4 (by decide) (o.ts _ hf) (fun _ h => h) rfl d (k H locs ls hP hS hl)
theorem gp_X0_4 (o : OK X cc own sd nL R l) (hk : kd sd i 0) {index : Nat} (hf : Cond.fieldLink own index "CurtainHouse$Curtain" "tied" "I" ∈ wt) (d : decode cc pc = .ok (.putfield index, 3)) (hq : pc + 3 = q) {v : Int32} {K : Mem → Option ρ} (h : vW σ i 4 v K = some res) (k : ∀ σ, K σ = some res → G X σ q lv rest) : G X σ pc lv (.int v :: .ref (eA (xE X) i) :: rest) := fun H locs ls hP hS hl => by
  subst hq
  refine va_put (ci := 0) (C := RX0) (T := TX0) (N := 6) (ty := .int) (v := .int v) o.x o.b o.ts in_X0 tyX0 tyX0_ok nmX0 o.ow o.ck.1 hP (o.D _) hS i (cell_X0 hk o.mk) rfl 4 (by decide) (o.ts _ hf) (fun _ h => h) rfl (by decide +kernel) rfl rfl (Nat.le_of_ble_eq_true rfl) d (fun H1 locs1 hP1 _ hS1 => ?_)
  exact k (up2 σ i 4 v) h H1 locs1 ls (wsWset (r := upd (σ i) 4 v) hk.1 hk.2.1 o.mk (by rw [cel_X0 hk.2.2]; rfl) hP1) hS1 hl
theorem gf_X0_5 (o : OK X cc own sd nL R l) (hk : kd sd i 0) {index : Nat} (hf : Cond.fieldLink own index "CurtainHouse$Curtain" "downs" "I" ∈ wt) (d : decode cc pc = .ok (.getfield index, 3)) (hq : pc + 3 = q) (k : G X σ q lv (.int (σ i 5) :: rest)) : G X σ pc lv (.ref (eA (xE X) i) :: rest) := fun H locs ls hP hS hl => by
  subst hq
  exact va_get (ci := 0) (C := RX0) (T := TX0) (N := 6) o.x o.b o.ts in_X0 o.ow o.ck.1 hP i (cell_X0 hk o.mk) rfl 5 (by decide) (o.ts _ hf) (fun _ h => h) rfl d (k H locs ls hP hS hl)
theorem gp_X0_5 (o : OK X cc own sd nL R l) (hk : kd sd i 0) {index : Nat} (hf : Cond.fieldLink own index "CurtainHouse$Curtain" "downs" "I" ∈ wt) (d : decode cc pc = .ok (.putfield index, 3)) (hq : pc + 3 = q) {v : Int32} {K : Mem → Option ρ} (h : vW σ i 5 v K = some res) (k : ∀ σ, K σ = some res → G X σ q lv rest) : G X σ pc lv (.int v :: .ref (eA (xE X) i) :: rest) := fun H locs ls hP hS hl => by
  subst hq
  refine va_put (ci := 0) (C := RX0) (T := TX0) (N := 6) (ty := .int) (v := .int v) o.x o.b o.ts in_X0 tyX0 tyX0_ok nmX0 o.ow o.ck.1 hP (o.D _) hS i (cell_X0 hk o.mk) rfl 5 (by decide) (o.ts _ hf) (fun _ h => h) rfl (by decide +kernel) rfl rfl (Nat.le_of_ble_eq_true rfl) d (fun H1 locs1 hP1 _ hS1 => ?_)
  exact k (up2 σ i 5 v) h H1 locs1 ls (wsWset (r := upd (σ i) 5 v) hk.1 hk.2.1 o.mk (by rw [cel_X0 hk.2.2]; rfl) hP1) hS1 hl
theorem cel_X1 {E : En} {i : Nat} {r : Nat → Int32} (hk : ck i = 1) : cel E i r = .inr (1, [.int (r 0), .int (r 1), .int (r 2), .int (r 3), .int (r 4), .int (r 5), .ref (eA E (i + 1)), .ref (eA E (i + 2)), .ref (eA E (i + 3))]) := by
  unfold cel
  rw [hk]
  rfl
theorem cell_X1 {E : En} {mk : Mem → Mem} {i : Nat} {σ : Mem} (hk : kd sd i 1) (hm : MK mk sd) : (wsW E (mk σ))[i]? = some (eA E i, .inr (1, [.int (σ i 0), .int (σ i 1), .int (σ i 2), .int (σ i 3), .int (σ i 4), .int (σ i 5), .ref (eA E (i + 1)), .ref (eA E (i + 2)), .ref (eA E (i + 3))])) := by
  rw [ws_get hk.2.1, hm.1 σ i hk.1, cel_X1 hk.2.2]
theorem gf_X1_0 (o : OK X cc own sd nL R l) (hk : kd sd i 1) {index : Nat} (hf : Cond.fieldLink own index "CurtainHouse$House" "fire" "I" ∈ wt) (d : decode cc pc = .ok (.getfield index, 3)) (hq : pc + 3 = q) (k : G X σ q lv (.int (σ i 0) :: rest)) : G X σ pc lv (.ref (eA (xE X) i) :: rest) := fun H locs ls hP hS hl => by
  subst hq
  exact va_get (ci := 1) (C := RX1) (T := TX1) (N := 9) o.x o.b o.ts in_X1 o.ow o.ck.1 hP i (cell_X1 hk o.mk) rfl 0 (by decide) (o.ts _ hf) (fun _ h => h) rfl d (k H locs ls hP hS hl)
theorem gp_X1_0 (o : OK X cc own sd nL R l) (hk : kd sd i 1) {index : Nat} (hf : Cond.fieldLink own index "CurtainHouse$House" "fire" "I" ∈ wt) (d : decode cc pc = .ok (.putfield index, 3)) (hq : pc + 3 = q) {v : Int32} {K : Mem → Option ρ} (h : vW σ i 0 v K = some res) (k : ∀ σ, K σ = some res → G X σ q lv rest) : G X σ pc lv (.int v :: .ref (eA (xE X) i) :: rest) := fun H locs ls hP hS hl => by
  subst hq
  refine va_put (ci := 1) (C := RX1) (T := TX1) (N := 9) (ty := .int) (v := .int v) o.x o.b o.ts in_X1 tyX1 tyX1_ok nmX1 o.ow o.ck.1 hP (o.D _) hS i (cell_X1 hk o.mk) rfl 0 (by decide) (o.ts _ hf) (fun _ h => h) rfl (by decide +kernel) rfl rfl (Nat.le_of_ble_eq_true rfl) d (fun H1 locs1 hP1 _ hS1 => ?_)
  exact k (up2 σ i 0 v) h H1 locs1 ls (wsWset (r := upd (σ i) 0 v) hk.1 hk.2.1 o.mk (by rw [cel_X1 hk.2.2]; rfl) hP1) hS1 hl
theorem gf_X1_1 (o : OK X cc own sd nL R l) (hk : kd sd i 1) {index : Nat} (hf : Cond.fieldLink own index "CurtainHouse$House" "cut" "I" ∈ wt) (d : decode cc pc = .ok (.getfield index, 3)) (hq : pc + 3 = q) (k : G X σ q lv (.int (σ i 1) :: rest)) : G X σ pc lv (.ref (eA (xE X) i) :: rest) := fun H locs ls hP hS hl => by
  subst hq
  exact va_get (ci := 1) (C := RX1) (T := TX1) (N := 9) o.x o.b o.ts in_X1 o.ow o.ck.1 hP i (cell_X1 hk o.mk) rfl 1 (by decide) (o.ts _ hf) (fun _ h => h) rfl d (k H locs ls hP hS hl)
theorem gp_X1_1 (o : OK X cc own sd nL R l) (hk : kd sd i 1) {index : Nat} (hf : Cond.fieldLink own index "CurtainHouse$House" "cut" "I" ∈ wt) (d : decode cc pc = .ok (.putfield index, 3)) (hq : pc + 3 = q) {v : Int32} {K : Mem → Option ρ} (h : vW σ i 1 v K = some res) (k : ∀ σ, K σ = some res → G X σ q lv rest) : G X σ pc lv (.int v :: .ref (eA (xE X) i) :: rest) := fun H locs ls hP hS hl => by
  subst hq
  refine va_put (ci := 1) (C := RX1) (T := TX1) (N := 9) (ty := .int) (v := .int v) o.x o.b o.ts in_X1 tyX1 tyX1_ok nmX1 o.ow o.ck.1 hP (o.D _) hS i (cell_X1 hk o.mk) rfl 1 (by decide) (o.ts _ hf) (fun _ h => h) rfl (by decide +kernel) rfl rfl (Nat.le_of_ble_eq_true rfl) d (fun H1 locs1 hP1 _ hS1 => ?_)
  exact k (up2 σ i 1 v) h H1 locs1 ls (wsWset (r := upd (σ i) 1 v) hk.1 hk.2.1 o.mk (by rw [cel_X1 hk.2.2]; rfl) hP1) hS1 hl
theorem gf_X1_2 (o : OK X cc own sd nL R l) (hk : kd sd i 1) {index : Nat} (hf : Cond.fieldLink own index "CurtainHouse$House" "saved" "I" ∈ wt) (d : decode cc pc = .ok (.getfield index, 3)) (hq : pc + 3 = q) (k : G X σ q lv (.int (σ i 2) :: rest)) : G X σ pc lv (.ref (eA (xE X) i) :: rest) := fun H locs ls hP hS hl => by
  subst hq
  exact va_get (ci := 1) (C := RX1) (T := TX1) (N := 9) o.x o.b o.ts in_X1 o.ow o.ck.1 hP i (cell_X1 hk o.mk) rfl 2 (by decide) (o.ts _ hf) (fun _ h => h) rfl d (k H locs ls hP hS hl)
theorem gp_X1_2 (o : OK X cc own sd nL R l) (hk : kd sd i 1) {index : Nat} (hf : Cond.fieldLink own index "CurtainHouse$House" "saved" "I" ∈ wt) (d : decode cc pc = .ok (.putfield index, 3)) (hq : pc + 3 = q) {v : Int32} {K : Mem → Option ρ} (h : vW σ i 2 v K = some res) (k : ∀ σ, K σ = some res → G X σ q lv rest) : G X σ pc lv (.int v :: .ref (eA (xE X) i) :: rest) := fun H locs ls hP hS hl => by
  subst hq
  refine va_put (ci := 1) (C := RX1) (T := TX1) (N := 9) (ty := .int) (v := .int v) o.x o.b o.ts in_X1 tyX1 tyX1_ok nmX1 o.ow o.ck.1 hP (o.D _) hS i (cell_X1 hk o.mk) rfl 2 (by decide) (o.ts _ hf) (fun _ h => h) rfl (by decide +kernel) rfl rfl (Nat.le_of_ble_eq_true rfl) d (fun H1 locs1 hP1 _ hS1 => ?_)
  exact k (up2 σ i 2 v) h H1 locs1 ls (wsWset (r := upd (σ i) 2 v) hk.1 hk.2.1 o.mk (by rw [cel_X1 hk.2.2]; rfl) hP1) hS1 hl
theorem gf_X1_3 (o : OK X cc own sd nL R l) (hk : kd sd i 1) {index : Nat} (hf : Cond.fieldLink own index "CurtainHouse$House" "beat" "I" ∈ wt) (d : decode cc pc = .ok (.getfield index, 3)) (hq : pc + 3 = q) (k : G X σ q lv (.int (σ i 3) :: rest)) : G X σ pc lv (.ref (eA (xE X) i) :: rest) := fun H locs ls hP hS hl => by
  subst hq
  exact va_get (ci := 1) (C := RX1) (T := TX1) (N := 9) o.x o.b o.ts in_X1 o.ow o.ck.1 hP i (cell_X1 hk o.mk) rfl 3 (by decide) (o.ts _ hf) (fun _ h => h) rfl d (k H locs ls hP hS hl)
theorem gp_X1_3 (o : OK X cc own sd nL R l) (hk : kd sd i 1) {index : Nat} (hf : Cond.fieldLink own index "CurtainHouse$House" "beat" "I" ∈ wt) (d : decode cc pc = .ok (.putfield index, 3)) (hq : pc + 3 = q) {v : Int32} {K : Mem → Option ρ} (h : vW σ i 3 v K = some res) (k : ∀ σ, K σ = some res → G X σ q lv rest) : G X σ pc lv (.int v :: .ref (eA (xE X) i) :: rest) := fun H locs ls hP hS hl => by
  subst hq
  refine va_put (ci := 1) (C := RX1) (T := TX1) (N := 9) (ty := .int) (v := .int v) o.x o.b o.ts in_X1 tyX1 tyX1_ok nmX1 o.ow o.ck.1 hP (o.D _) hS i (cell_X1 hk o.mk) rfl 3 (by decide) (o.ts _ hf) (fun _ h => h) rfl (by decide +kernel) rfl rfl (Nat.le_of_ble_eq_true rfl) d (fun H1 locs1 hP1 _ hS1 => ?_)
  exact k (up2 σ i 3 v) h H1 locs1 ls (wsWset (r := upd (σ i) 3 v) hk.1 hk.2.1 o.mk (by rw [cel_X1 hk.2.2]; rfl) hP1) hS1 hl
theorem gf_X1_4 (o : OK X cc own sd nL R l) (hk : kd sd i 1) {index : Nat} (hf : Cond.fieldLink own index "CurtainHouse$House" "z" "I" ∈ wt) (d : decode cc pc = .ok (.getfield index, 3)) (hq : pc + 3 = q) (k : G X σ q lv (.int (σ i 4) :: rest)) : G X σ pc lv (.ref (eA (xE X) i) :: rest) := fun H locs ls hP hS hl => by
  subst hq
  exact va_get (ci := 1) (C := RX1) (T := TX1) (N := 9) o.x o.b o.ts in_X1 o.ow o.ck.1 hP i (cell_X1 hk o.mk) rfl 4 (by decide) (o.ts _ hf) (fun _ h => h) rfl d (k H locs ls hP hS hl)
theorem gp_X1_4 (o : OK X cc own sd nL R l) (hk : kd sd i 1) {index : Nat} (hf : Cond.fieldLink own index "CurtainHouse$House" "z" "I" ∈ wt) (d : decode cc pc = .ok (.putfield index, 3)) (hq : pc + 3 = q) {v : Int32} {K : Mem → Option ρ} (h : vW σ i 4 v K = some res) (k : ∀ σ, K σ = some res → G X σ q lv rest) : G X σ pc lv (.int v :: .ref (eA (xE X) i) :: rest) := fun H locs ls hP hS hl => by
  subst hq
  refine va_put (ci := 1) (C := RX1) (T := TX1) (N := 9) (ty := .int) (v := .int v) o.x o.b o.ts in_X1 tyX1 tyX1_ok nmX1 o.ow o.ck.1 hP (o.D _) hS i (cell_X1 hk o.mk) rfl 4 (by decide) (o.ts _ hf) (fun _ h => h) rfl (by decide +kernel) rfl rfl (Nat.le_of_ble_eq_true rfl) d (fun H1 locs1 hP1 _ hS1 => ?_)
  exact k (up2 σ i 4 v) h H1 locs1 ls (wsWset (r := upd (σ i) 4 v) hk.1 hk.2.1 o.mk (by rw [cel_X1 hk.2.2]; rfl) hP1) hS1 hl
theorem gf_X1_5 (o : OK X cc own sd nL R l) (hk : kd sd i 1) {index : Nat} (hf : Cond.fieldLink own index "CurtainHouse$House" "hung" "I" ∈ wt) (d : decode cc pc = .ok (.getfield index, 3)) (hq : pc + 3 = q) (k : G X σ q lv (.int (σ i 5) :: rest)) : G X σ pc lv (.ref (eA (xE X) i) :: rest) := fun H locs ls hP hS hl => by
  subst hq
  exact va_get (ci := 1) (C := RX1) (T := TX1) (N := 9) o.x o.b o.ts in_X1 o.ow o.ck.1 hP i (cell_X1 hk o.mk) rfl 5 (by decide) (o.ts _ hf) (fun _ h => h) rfl d (k H locs ls hP hS hl)
theorem gp_X1_5 (o : OK X cc own sd nL R l) (hk : kd sd i 1) {index : Nat} (hf : Cond.fieldLink own index "CurtainHouse$House" "hung" "I" ∈ wt) (d : decode cc pc = .ok (.putfield index, 3)) (hq : pc + 3 = q) {v : Int32} {K : Mem → Option ρ} (h : vW σ i 5 v K = some res) (k : ∀ σ, K σ = some res → G X σ q lv rest) : G X σ pc lv (.int v :: .ref (eA (xE X) i) :: rest) := fun H locs ls hP hS hl => by
  subst hq
  refine va_put (ci := 1) (C := RX1) (T := TX1) (N := 9) (ty := .int) (v := .int v) o.x o.b o.ts in_X1 tyX1 tyX1_ok nmX1 o.ow o.ck.1 hP (o.D _) hS i (cell_X1 hk o.mk) rfl 5 (by decide) (o.ts _ hf) (fun _ h => h) rfl (by decide +kernel) rfl rfl (Nat.le_of_ble_eq_true rfl) d (fun H1 locs1 hP1 _ hS1 => ?_)
  exact k (up2 σ i 5 v) h H1 locs1 ls (wsWset (r := upd (σ i) 5 v) hk.1 hk.2.1 o.mk (by rw [cel_X1 hk.2.2]; rfl) hP1) hS1 hl
theorem gf_X1_6 (o : OK X cc own sd nL R l) (hk : kd sd i 1) {index : Nat} (hf : Cond.fieldLink own index "CurtainHouse$House" "list" "[I" ∈ wt) (d : decode cc pc = .ok (.getfield index, 3)) (hq : pc + 3 = q) (k : G X σ q lv (.ref (eA (xE X) (i + 1)) :: rest)) : G X σ pc lv (.ref (eA (xE X) i) :: rest) := fun H locs ls hP hS hl => by
  subst hq
  exact va_get (ci := 1) (C := RX1) (T := TX1) (N := 9) o.x o.b o.ts in_X1 o.ow o.ck.1 hP i (cell_X1 hk o.mk) rfl 6 (by decide) (o.ts _ hf) (fun _ h => h) rfl d (k H locs ls hP hS hl)
theorem gf_X1_7 (o : OK X cc own sd nL R l) (hk : kd sd i 1) {index : Nat} (hf : Cond.fieldLink own index "CurtainHouse$House" "spots" "[I" ∈ wt) (d : decode cc pc = .ok (.getfield index, 3)) (hq : pc + 3 = q) (k : G X σ q lv (.ref (eA (xE X) (i + 2)) :: rest)) : G X σ pc lv (.ref (eA (xE X) i) :: rest) := fun H locs ls hP hS hl => by
  subst hq
  exact va_get (ci := 1) (C := RX1) (T := TX1) (N := 9) o.x o.b o.ts in_X1 o.ow o.ck.1 hP i (cell_X1 hk o.mk) rfl 7 (by decide) (o.ts _ hf) (fun _ h => h) rfl d (k H locs ls hP hS hl)
theorem gf_X1_8 (o : OK X cc own sd nL R l) (hk : kd sd i 1) {index : Nat} (hf : Cond.fieldLink own index "CurtainHouse$House" "curtains" "[LCurtainHouse$Curtain;" ∈ wt) (d : decode cc pc = .ok (.getfield index, 3)) (hq : pc + 3 = q) (k : G X σ q lv (.ref (eA (xE X) (i + 3)) :: rest)) : G X σ pc lv (.ref (eA (xE X) i) :: rest) := fun H locs ls hP hS hl => by
  subst hq
  exact va_get (ci := 1) (C := RX1) (T := TX1) (N := 9) o.x o.b o.ts in_X1 o.ow o.ck.1 hP i (cell_X1 hk o.mk) rfl 8 (by decide) (o.ts _ hf) (fun _ h => h) rfl d (k H locs ls hP hS hl)
theorem cel_X2 {E : En} {i : Nat} {r : Nat → Int32} (hk : ck i = 2) : cel E i r = .inr (2, [.int (r 0), .int (r 1), .ref (eA E (i + 1))]) := by
  unfold cel
  rw [hk]
  rfl
theorem cell_X2 {E : En} {mk : Mem → Mem} {i : Nat} {σ : Mem} (hk : kd sd i 2) (hm : MK mk sd) : (wsW E (mk σ))[i]? = some (eA E i, .inr (2, [.int (σ i 0), .int (σ i 1), .ref (eA E (i + 1))])) := by
  rw [ws_get hk.2.1, hm.1 σ i hk.1, cel_X2 hk.2.2]
theorem gf_X2_0 (o : OK X cc own sd nL R l) (hk : kd sd i 2) {index : Nat} (hf : Cond.fieldLink own index "CurtainHouse$Sheet" "bits" "I" ∈ wt) (d : decode cc pc = .ok (.getfield index, 3)) (hq : pc + 3 = q) (k : G X σ q lv (.int (σ i 0) :: rest)) : G X σ pc lv (.ref (eA (xE X) i) :: rest) := fun H locs ls hP hS hl => by
  subst hq
  exact va_get (ci := 2) (C := RX2) (T := TX2) (N := 3) o.x o.b o.ts in_X2 o.ow o.ck.1 hP i (cell_X2 hk o.mk) rfl 0 (by decide) (o.ts _ hf) (fun _ h => h) rfl d (k H locs ls hP hS hl)
theorem gp_X2_0 (o : OK X cc own sd nL R l) (hk : kd sd i 2) {index : Nat} (hf : Cond.fieldLink own index "CurtainHouse$Sheet" "bits" "I" ∈ wt) (d : decode cc pc = .ok (.putfield index, 3)) (hq : pc + 3 = q) {v : Int32} {K : Mem → Option ρ} (h : vW σ i 0 v K = some res) (k : ∀ σ, K σ = some res → G X σ q lv rest) : G X σ pc lv (.int v :: .ref (eA (xE X) i) :: rest) := fun H locs ls hP hS hl => by
  subst hq
  refine va_put (ci := 2) (C := RX2) (T := TX2) (N := 3) (ty := .int) (v := .int v) o.x o.b o.ts in_X2 tyX2 tyX2_ok nmX2 o.ow o.ck.1 hP (o.D _) hS i (cell_X2 hk o.mk) rfl 0 (by decide) (o.ts _ hf) (fun _ h => h) rfl (by decide +kernel) rfl rfl (Nat.le_of_ble_eq_true rfl) d (fun H1 locs1 hP1 _ hS1 => ?_)
  exact k (up2 σ i 0 v) h H1 locs1 ls (wsWset (r := upd (σ i) 0 v) hk.1 hk.2.1 o.mk (by rw [cel_X2 hk.2.2]; rfl) hP1) hS1 hl
theorem gf_X2_1 (o : OK X cc own sd nL R l) (hk : kd sd i 2) {index : Nat} (hf : Cond.fieldLink own index "CurtainHouse$Sheet" "length" "I" ∈ wt) (d : decode cc pc = .ok (.getfield index, 3)) (hq : pc + 3 = q) (k : G X σ q lv (.int (σ i 1) :: rest)) : G X σ pc lv (.ref (eA (xE X) i) :: rest) := fun H locs ls hP hS hl => by
  subst hq
  exact va_get (ci := 2) (C := RX2) (T := TX2) (N := 3) o.x o.b o.ts in_X2 o.ow o.ck.1 hP i (cell_X2 hk o.mk) rfl 1 (by decide) (o.ts _ hf) (fun _ h => h) rfl d (k H locs ls hP hS hl)
theorem gp_X2_1 (o : OK X cc own sd nL R l) (hk : kd sd i 2) {index : Nat} (hf : Cond.fieldLink own index "CurtainHouse$Sheet" "length" "I" ∈ wt) (d : decode cc pc = .ok (.putfield index, 3)) (hq : pc + 3 = q) {v : Int32} {K : Mem → Option ρ} (h : vW σ i 1 v K = some res) (k : ∀ σ, K σ = some res → G X σ q lv rest) : G X σ pc lv (.int v :: .ref (eA (xE X) i) :: rest) := fun H locs ls hP hS hl => by
  subst hq
  refine va_put (ci := 2) (C := RX2) (T := TX2) (N := 3) (ty := .int) (v := .int v) o.x o.b o.ts in_X2 tyX2 tyX2_ok nmX2 o.ow o.ck.1 hP (o.D _) hS i (cell_X2 hk o.mk) rfl 1 (by decide) (o.ts _ hf) (fun _ h => h) rfl (by decide +kernel) rfl rfl (Nat.le_of_ble_eq_true rfl) d (fun H1 locs1 hP1 _ hS1 => ?_)
  exact k (up2 σ i 1 v) h H1 locs1 ls (wsWset (r := upd (σ i) 1 v) hk.1 hk.2.1 o.mk (by rw [cel_X2 hk.2.2]; rfl) hP1) hS1 hl
theorem gf_X2_2 (o : OK X cc own sd nL R l) (hk : kd sd i 2) {index : Nat} (hf : Cond.fieldLink own index "CurtainHouse$Sheet" "numbers" "[I" ∈ wt) (d : decode cc pc = .ok (.getfield index, 3)) (hq : pc + 3 = q) (k : G X σ q lv (.ref (eA (xE X) (i + 1)) :: rest)) : G X σ pc lv (.ref (eA (xE X) i) :: rest) := fun H locs ls hP hS hl => by
  subst hq
  exact va_get (ci := 2) (C := RX2) (T := TX2) (N := 3) o.x o.b o.ts in_X2 o.ow o.ck.1 hP i (cell_X2 hk o.mk) rfl 2 (by decide) (o.ts _ hf) (fun _ h => h) rfl d (k H locs ls hP hS hl)
theorem cel_X3 {E : En} {i : Nat} {r : Nat → Int32} (hk : ck i = 3) : cel E i r = .inr (3, [.ref (eA E (39)), .int (r 1), .int (r 2), .int (r 3), .int (r 4), .int (r 5)]) := by
  unfold cel
  rw [hk]
  rfl
theorem cell_X3 {E : En} {mk : Mem → Mem} {i : Nat} {σ : Mem} (hk : kd sd i 3) (hm : MK mk sd) : (wsW E (mk σ))[i]? = some (eA E i, .inr (3, [.ref (eA E (39)), .int (σ i 1), .int (σ i 2), .int (σ i 3), .int (σ i 4), .int (σ i 5)])) := by
  rw [ws_get hk.2.1, hm.1 σ i hk.1, cel_X3 hk.2.2]
theorem gf_X3_0 (o : OK X cc own sd nL R l) (hk : kd sd i 3) {index : Nat} (hf : Cond.fieldLink own index "CurtainHouse$Tape" "bytes" "[B" ∈ wt) (d : decode cc pc = .ok (.getfield index, 3)) (hq : pc + 3 = q) (k : G X σ q lv (.ref (eA (xE X) (39)) :: rest)) : G X σ pc lv (.ref (eA (xE X) i) :: rest) := fun H locs ls hP hS hl => by
  subst hq
  exact va_get (ci := 3) (C := RX3) (T := TX3) (N := 6) o.x o.b o.ts in_X3 o.ow o.ck.1 hP i (cell_X3 hk o.mk) rfl 0 (by decide) (o.ts _ hf) (fun _ h => h) rfl d (k H locs ls hP hS hl)
theorem gf_X3_1 (o : OK X cc own sd nL R l) (hk : kd sd i 3) {index : Nat} (hf : Cond.fieldLink own index "CurtainHouse$Tape" "length" "I" ∈ wt) (d : decode cc pc = .ok (.getfield index, 3)) (hq : pc + 3 = q) (k : G X σ q lv (.int (σ i 1) :: rest)) : G X σ pc lv (.ref (eA (xE X) i) :: rest) := fun H locs ls hP hS hl => by
  subst hq
  exact va_get (ci := 3) (C := RX3) (T := TX3) (N := 6) o.x o.b o.ts in_X3 o.ow o.ck.1 hP i (cell_X3 hk o.mk) rfl 1 (by decide) (o.ts _ hf) (fun _ h => h) rfl d (k H locs ls hP hS hl)
theorem gp_X3_1 (o : OK X cc own sd nL R l) (hk : kd sd i 3) {index : Nat} (hf : Cond.fieldLink own index "CurtainHouse$Tape" "length" "I" ∈ wt) (d : decode cc pc = .ok (.putfield index, 3)) (hq : pc + 3 = q) {v : Int32} {K : Mem → Option ρ} (h : vW σ i 1 v K = some res) (k : ∀ σ, K σ = some res → G X σ q lv rest) : G X σ pc lv (.int v :: .ref (eA (xE X) i) :: rest) := fun H locs ls hP hS hl => by
  subst hq
  refine va_put (ci := 3) (C := RX3) (T := TX3) (N := 6) (ty := .int) (v := .int v) o.x o.b o.ts in_X3 tyX3 tyX3_ok nmX3 o.ow o.ck.1 hP (o.D _) hS i (cell_X3 hk o.mk) rfl 1 (by decide) (o.ts _ hf) (fun _ h => h) rfl (by decide +kernel) rfl rfl (Nat.le_of_ble_eq_true rfl) d (fun H1 locs1 hP1 _ hS1 => ?_)
  exact k (up2 σ i 1 v) h H1 locs1 ls (wsWset (r := upd (σ i) 1 v) hk.1 hk.2.1 o.mk (by rw [cel_X3 hk.2.2]; rfl) hP1) hS1 hl
theorem gf_X3_2 (o : OK X cc own sd nL R l) (hk : kd sd i 3) {index : Nat} (hf : Cond.fieldLink own index "CurtainHouse$Tape" "token" "I" ∈ wt) (d : decode cc pc = .ok (.getfield index, 3)) (hq : pc + 3 = q) (k : G X σ q lv (.int (σ i 2) :: rest)) : G X σ pc lv (.ref (eA (xE X) i) :: rest) := fun H locs ls hP hS hl => by
  subst hq
  exact va_get (ci := 3) (C := RX3) (T := TX3) (N := 6) o.x o.b o.ts in_X3 o.ow o.ck.1 hP i (cell_X3 hk o.mk) rfl 2 (by decide) (o.ts _ hf) (fun _ h => h) rfl d (k H locs ls hP hS hl)
theorem gp_X3_2 (o : OK X cc own sd nL R l) (hk : kd sd i 3) {index : Nat} (hf : Cond.fieldLink own index "CurtainHouse$Tape" "token" "I" ∈ wt) (d : decode cc pc = .ok (.putfield index, 3)) (hq : pc + 3 = q) {v : Int32} {K : Mem → Option ρ} (h : vW σ i 2 v K = some res) (k : ∀ σ, K σ = some res → G X σ q lv rest) : G X σ pc lv (.int v :: .ref (eA (xE X) i) :: rest) := fun H locs ls hP hS hl => by
  subst hq
  refine va_put (ci := 3) (C := RX3) (T := TX3) (N := 6) (ty := .int) (v := .int v) o.x o.b o.ts in_X3 tyX3 tyX3_ok nmX3 o.ow o.ck.1 hP (o.D _) hS i (cell_X3 hk o.mk) rfl 2 (by decide) (o.ts _ hf) (fun _ h => h) rfl (by decide +kernel) rfl rfl (Nat.le_of_ble_eq_true rfl) d (fun H1 locs1 hP1 _ hS1 => ?_)
  exact k (up2 σ i 2 v) h H1 locs1 ls (wsWset (r := upd (σ i) 2 v) hk.1 hk.2.1 o.mk (by rw [cel_X3 hk.2.2]; rfl) hP1) hS1 hl
theorem gf_X3_3 (o : OK X cc own sd nL R l) (hk : kd sd i 3) {index : Nat} (hf : Cond.fieldLink own index "CurtainHouse$Tape" "begin" "I" ∈ wt) (d : decode cc pc = .ok (.getfield index, 3)) (hq : pc + 3 = q) (k : G X σ q lv (.int (σ i 3) :: rest)) : G X σ pc lv (.ref (eA (xE X) i) :: rest) := fun H locs ls hP hS hl => by
  subst hq
  exact va_get (ci := 3) (C := RX3) (T := TX3) (N := 6) o.x o.b o.ts in_X3 o.ow o.ck.1 hP i (cell_X3 hk o.mk) rfl 3 (by decide) (o.ts _ hf) (fun _ h => h) rfl d (k H locs ls hP hS hl)
theorem gp_X3_3 (o : OK X cc own sd nL R l) (hk : kd sd i 3) {index : Nat} (hf : Cond.fieldLink own index "CurtainHouse$Tape" "begin" "I" ∈ wt) (d : decode cc pc = .ok (.putfield index, 3)) (hq : pc + 3 = q) {v : Int32} {K : Mem → Option ρ} (h : vW σ i 3 v K = some res) (k : ∀ σ, K σ = some res → G X σ q lv rest) : G X σ pc lv (.int v :: .ref (eA (xE X) i) :: rest) := fun H locs ls hP hS hl => by
  subst hq
  refine va_put (ci := 3) (C := RX3) (T := TX3) (N := 6) (ty := .int) (v := .int v) o.x o.b o.ts in_X3 tyX3 tyX3_ok nmX3 o.ow o.ck.1 hP (o.D _) hS i (cell_X3 hk o.mk) rfl 3 (by decide) (o.ts _ hf) (fun _ h => h) rfl (by decide +kernel) rfl rfl (Nat.le_of_ble_eq_true rfl) d (fun H1 locs1 hP1 _ hS1 => ?_)
  exact k (up2 σ i 3 v) h H1 locs1 ls (wsWset (r := upd (σ i) 3 v) hk.1 hk.2.1 o.mk (by rw [cel_X3 hk.2.2]; rfl) hP1) hS1 hl
theorem gf_X3_4 (o : OK X cc own sd nL R l) (hk : kd sd i 3) {index : Nat} (hf : Cond.fieldLink own index "CurtainHouse$Tape" "end" "I" ∈ wt) (d : decode cc pc = .ok (.getfield index, 3)) (hq : pc + 3 = q) (k : G X σ q lv (.int (σ i 4) :: rest)) : G X σ pc lv (.ref (eA (xE X) i) :: rest) := fun H locs ls hP hS hl => by
  subst hq
  exact va_get (ci := 3) (C := RX3) (T := TX3) (N := 6) o.x o.b o.ts in_X3 o.ow o.ck.1 hP i (cell_X3 hk o.mk) rfl 4 (by decide) (o.ts _ hf) (fun _ h => h) rfl d (k H locs ls hP hS hl)
theorem gp_X3_4 (o : OK X cc own sd nL R l) (hk : kd sd i 3) {index : Nat} (hf : Cond.fieldLink own index "CurtainHouse$Tape" "end" "I" ∈ wt) (d : decode cc pc = .ok (.putfield index, 3)) (hq : pc + 3 = q) {v : Int32} {K : Mem → Option ρ} (h : vW σ i 4 v K = some res) (k : ∀ σ, K σ = some res → G X σ q lv rest) : G X σ pc lv (.int v :: .ref (eA (xE X) i) :: rest) := fun H locs ls hP hS hl => by
  subst hq
  refine va_put (ci := 3) (C := RX3) (T := TX3) (N := 6) (ty := .int) (v := .int v) o.x o.b o.ts in_X3 tyX3 tyX3_ok nmX3 o.ow o.ck.1 hP (o.D _) hS i (cell_X3 hk o.mk) rfl 4 (by decide) (o.ts _ hf) (fun _ h => h) rfl (by decide +kernel) rfl rfl (Nat.le_of_ble_eq_true rfl) d (fun H1 locs1 hP1 _ hS1 => ?_)
  exact k (up2 σ i 4 v) h H1 locs1 ls (wsWset (r := upd (σ i) 4 v) hk.1 hk.2.1 o.mk (by rw [cel_X3 hk.2.2]; rfl) hP1) hS1 hl
theorem gf_X3_5 (o : OK X cc own sd nL R l) (hk : kd sd i 3) {index : Nat} (hf : Cond.fieldLink own index "CurtainHouse$Tape" "value" "I" ∈ wt) (d : decode cc pc = .ok (.getfield index, 3)) (hq : pc + 3 = q) (k : G X σ q lv (.int (σ i 5) :: rest)) : G X σ pc lv (.ref (eA (xE X) i) :: rest) := fun H locs ls hP hS hl => by
  subst hq
  exact va_get (ci := 3) (C := RX3) (T := TX3) (N := 6) o.x o.b o.ts in_X3 o.ow o.ck.1 hP i (cell_X3 hk o.mk) rfl 5 (by decide) (o.ts _ hf) (fun _ h => h) rfl d (k H locs ls hP hS hl)
theorem gp_X3_5 (o : OK X cc own sd nL R l) (hk : kd sd i 3) {index : Nat} (hf : Cond.fieldLink own index "CurtainHouse$Tape" "value" "I" ∈ wt) (d : decode cc pc = .ok (.putfield index, 3)) (hq : pc + 3 = q) {v : Int32} {K : Mem → Option ρ} (h : vW σ i 5 v K = some res) (k : ∀ σ, K σ = some res → G X σ q lv rest) : G X σ pc lv (.int v :: .ref (eA (xE X) i) :: rest) := fun H locs ls hP hS hl => by
  subst hq
  refine va_put (ci := 3) (C := RX3) (T := TX3) (N := 6) (ty := .int) (v := .int v) o.x o.b o.ts in_X3 tyX3 tyX3_ok nmX3 o.ow o.ck.1 hP (o.D _) hS i (cell_X3 hk o.mk) rfl 5 (by decide) (o.ts _ hf) (fun _ h => h) rfl (by decide +kernel) rfl rfl (Nat.le_of_ble_eq_true rfl) d (fun H1 locs1 hP1 _ hS1 => ?_)
  exact k (up2 σ i 5 v) h H1 locs1 ls (wsWset (r := upd (σ i) 5 v) hk.1 hk.2.1 o.mk (by rw [cel_X3 hk.2.2]; rfl) hP1) hS1 hl
theorem cel_X4 {E : En} {i : Nat} {r : Nat → Int32} (hk : ck i = 4) : cel E i r = .inr (4, [.ref (eA E (1)), .ref (eA E (13)), .int (r 2), .ref (eA E (25)), .ref (eA E (37)), .ref (eA E (38)), .ref (eA E (40)), .ref (eA E (49))]) := by
  unfold cel
  rw [hk]
  rfl
theorem cell_X4 {E : En} {mk : Mem → Mem} {i : Nat} {σ : Mem} (hk : kd sd i 4) (hm : MK mk sd) : (wsW E (mk σ))[i]? = some (eA E i, .inr (4, [.ref (eA E (1)), .ref (eA E (13)), .int (σ i 2), .ref (eA E (25)), .ref (eA E (37)), .ref (eA E (38)), .ref (eA E (40)), .ref (eA E (49))])) := by
  rw [ws_get hk.2.1, hm.1 σ i hk.1, cel_X4 hk.2.2]
theorem gf_X4_0 (o : OK X cc own sd nL R l) (hk : kd sd i 4) {index : Nat} (hf : Cond.fieldLink own index "CurtainHouse" "house" "LCurtainHouse$House;" ∈ wt) (d : decode cc pc = .ok (.getfield index, 3)) (hq : pc + 3 = q) (k : G X σ q lv (.ref (eA (xE X) (1)) :: rest)) : G X σ pc lv (.ref (eA (xE X) i) :: rest) := fun H locs ls hP hS hl => by
  subst hq
  exact va_get (ci := 4) (C := RX4) (T := TX4) (N := 8) o.x o.b o.ts in_X4 o.ow o.ck.1 hP i (cell_X4 hk o.mk) rfl 0 (by decide) (o.ts _ hf) (fun _ h => h) rfl d (k H locs ls hP hS hl)
theorem gf_X4_1 (o : OK X cc own sd nL R l) (hk : kd sd i 4) {index : Nat} (hf : Cond.fieldLink own index "CurtainHouse" "kept" "LCurtainHouse$House;" ∈ wt) (d : decode cc pc = .ok (.getfield index, 3)) (hq : pc + 3 = q) (k : G X σ q lv (.ref (eA (xE X) (13)) :: rest)) : G X σ pc lv (.ref (eA (xE X) i) :: rest) := fun H locs ls hP hS hl => by
  subst hq
  exact va_get (ci := 4) (C := RX4) (T := TX4) (N := 8) o.x o.b o.ts in_X4 o.ow o.ck.1 hP i (cell_X4 hk o.mk) rfl 1 (by decide) (o.ts _ hf) (fun _ h => h) rfl d (k H locs ls hP hS hl)
theorem gf_X4_2 (o : OK X cc own sd nL R l) (hk : kd sd i 4) {index : Nat} (hf : Cond.fieldLink own index "CurtainHouse" "isKept" "Z" ∈ wt) (d : decode cc pc = .ok (.getfield index, 3)) (hq : pc + 3 = q) (k : G X σ q lv (.int (σ i 2) :: rest)) : G X σ pc lv (.ref (eA (xE X) i) :: rest) := fun H locs ls hP hS hl => by
  subst hq
  exact va_get (ci := 4) (C := RX4) (T := TX4) (N := 8) o.x o.b o.ts in_X4 o.ow o.ck.1 hP i (cell_X4 hk o.mk) rfl 2 (by decide) (o.ts _ hf) (fun _ h => h) rfl d (k H locs ls hP hS hl)
theorem gp_X4_2 (o : OK X cc own sd nL R l) (hk : kd sd i 4) {index : Nat} (hf : Cond.fieldLink own index "CurtainHouse" "isKept" "Z" ∈ wt) (d : decode cc pc = .ok (.putfield index, 3)) (hq : pc + 3 = q) {v : Int32} (hb : v = 0 ∨ v = 1) {K : Mem → Option ρ} (h : vW σ i 2 v K = some res) (k : ∀ σ, K σ = some res → G X σ q lv rest) : G X σ pc lv (.int v :: .ref (eA (xE X) i) :: rest) := fun H locs ls hP hS hl => by
  subst hq
  refine va_put (ci := 4) (C := RX4) (T := TX4) (N := 8) (ty := .boolean) (v := .int v) o.x o.b o.ts in_X4 tyX4 tyX4_ok nmX4 o.ow o.ck.1 hP (o.D _) hS i (cell_X4 hk o.mk) rfl 2 (by decide) (o.ts _ hf) (fun _ h => h) rfl (by decide +kernel) (by rcases hb with rfl | rfl <;> rfl) (by rcases hb with rfl | rfl <;> rfl) (Nat.le_of_ble_eq_true rfl) d (fun H1 locs1 hP1 _ hS1 => ?_)
  exact k (up2 σ i 2 v) h H1 locs1 ls (wsWset (r := upd (σ i) 2 v) hk.1 hk.2.1 o.mk (by rw [cel_X4 hk.2.2]; rfl) hP1) hS1 hl
theorem gf_X4_3 (o : OK X cc own sd nL R l) (hk : kd sd i 4) {index : Nat} (hf : Cond.fieldLink own index "CurtainHouse" "trial" "LCurtainHouse$House;" ∈ wt) (d : decode cc pc = .ok (.getfield index, 3)) (hq : pc + 3 = q) (k : G X σ q lv (.ref (eA (xE X) (25)) :: rest)) : G X σ pc lv (.ref (eA (xE X) i) :: rest) := fun H locs ls hP hS hl => by
  subst hq
  exact va_get (ci := 4) (C := RX4) (T := TX4) (N := 8) o.x o.b o.ts in_X4 o.ow o.ck.1 hP i (cell_X4 hk o.mk) rfl 3 (by decide) (o.ts _ hf) (fun _ h => h) rfl d (k H locs ls hP hS hl)
theorem gf_X4_4 (o : OK X cc own sd nL R l) (hk : kd sd i 4) {index : Nat} (hf : Cond.fieldLink own index "CurtainHouse" "probe" "LCurtainHouse$Curtain;" ∈ wt) (d : decode cc pc = .ok (.getfield index, 3)) (hq : pc + 3 = q) (k : G X σ q lv (.ref (eA (xE X) (37)) :: rest)) : G X σ pc lv (.ref (eA (xE X) i) :: rest) := fun H locs ls hP hS hl => by
  subst hq
  exact va_get (ci := 4) (C := RX4) (T := TX4) (N := 8) o.x o.b o.ts in_X4 o.ow o.ck.1 hP i (cell_X4 hk o.mk) rfl 4 (by decide) (o.ts _ hf) (fun _ h => h) rfl d (k H locs ls hP hS hl)
theorem gf_X4_5 (o : OK X cc own sd nL R l) (hk : kd sd i 4) {index : Nat} (hf : Cond.fieldLink own index "CurtainHouse" "tape" "LCurtainHouse$Tape;" ∈ wt) (d : decode cc pc = .ok (.getfield index, 3)) (hq : pc + 3 = q) (k : G X σ q lv (.ref (eA (xE X) (38)) :: rest)) : G X σ pc lv (.ref (eA (xE X) i) :: rest) := fun H locs ls hP hS hl => by
  subst hq
  exact va_get (ci := 4) (C := RX4) (T := TX4) (N := 8) o.x o.b o.ts in_X4 o.ow o.ck.1 hP i (cell_X4 hk o.mk) rfl 5 (by decide) (o.ts _ hf) (fun _ h => h) rfl d (k H locs ls hP hS hl)
theorem gf_X4_6 (o : OK X cc own sd nL R l) (hk : kd sd i 4) {index : Nat} (hf : Cond.fieldLink own index "CurtainHouse" "sheets" "[LCurtainHouse$Sheet;" ∈ wt) (d : decode cc pc = .ok (.getfield index, 3)) (hq : pc + 3 = q) (k : G X σ q lv (.ref (eA (xE X) (40)) :: rest)) : G X σ pc lv (.ref (eA (xE X) i) :: rest) := fun H locs ls hP hS hl => by
  subst hq
  exact va_get (ci := 4) (C := RX4) (T := TX4) (N := 8) o.x o.b o.ts in_X4 o.ow o.ck.1 hP i (cell_X4 hk o.mk) rfl 6 (by decide) (o.ts _ hf) (fun _ h => h) rfl d (k H locs ls hP hS hl)
theorem gf_X4_7 (o : OK X cc own sd nL R l) (hk : kd sd i 4) {index : Nat} (hf : Cond.fieldLink own index "CurtainHouse" "found" "[I" ∈ wt) (d : decode cc pc = .ok (.getfield index, 3)) (hq : pc + 3 = q) (k : G X σ q lv (.ref (eA (xE X) (49)) :: rest)) : G X σ pc lv (.ref (eA (xE X) i) :: rest) := fun H locs ls hP hS hl => by
  subst hq
  exact va_get (ci := 4) (C := RX4) (T := TX4) (N := 8) o.x o.b o.ts in_X4 o.ow o.ck.1 hP i (cell_X4 hk o.mk) rfl 7 (by decide) (o.ts _ hf) (fun _ h => h) rfl d (k H locs ls hP hS hl)
theorem cel_X5 {E : En} {i : Nat} {r : Nat → Int32} (hk : ck i = 5) : cel E i r = .inr (5, [.ref (eA E (51)), .ref (eA E (52)), .ref (eA E (53)), .int (r 3), .ref (eA E (54)), .ref (eA E (55)), .int (r 6), .int (r 7), .int (r 8), .int (r 9), .int (r 10), .int (r 11), .ref (eA E (56)), .ref (eA E (57)), .int (r 14), .int (r 15), .ref (eA E (58)), .ref (eA E (59)), .ref (eA E (60)), .ref (eA E (61))]) := by
  unfold cel
  rw [hk]
  rfl
theorem cell_X5 {E : En} {mk : Mem → Mem} {i : Nat} {σ : Mem} (hk : kd sd i 5) (hm : MK mk sd) : (wsW E (mk σ))[i]? = some (eA E i, .inr (5, [.ref (eA E (51)), .ref (eA E (52)), .ref (eA E (53)), .int (σ i 3), .ref (eA E (54)), .ref (eA E (55)), .int (σ i 6), .int (σ i 7), .int (σ i 8), .int (σ i 9), .int (σ i 10), .int (σ i 11), .ref (eA E (56)), .ref (eA E (57)), .int (σ i 14), .int (σ i 15), .ref (eA E (58)), .ref (eA E (59)), .ref (eA E (60)), .ref (eA E (61))])) := by
  rw [ws_get hk.2.1, hm.1 σ i hk.1, cel_X5 hk.2.2]
theorem gf_X5_0 (o : OK X cc own sd nL R l) (hk : kd sd i 5) {index : Nat} (hf : Cond.fieldLink own index "CurtainHouseModel" "now" "[I" ∈ wt) (d : decode cc pc = .ok (.getfield index, 3)) (hq : pc + 3 = q) (k : G X σ q lv (.ref (eA (xE X) (51)) :: rest)) : G X σ pc lv (.ref (eA (xE X) i) :: rest) := fun H locs ls hP hS hl => by
  subst hq
  exact va_get (ci := 5) (C := RX5) (T := TX5) (N := 20) o.x o.b o.ts in_X5 o.ow o.ck.1 hP i (cell_X5 hk o.mk) rfl 0 (by decide) (o.ts _ hf) (fun _ h => h) rfl d (k H locs ls hP hS hl)
theorem gf_X5_1 (o : OK X cc own sd nL R l) (hk : kd sd i 5) {index : Nat} (hf : Cond.fieldLink own index "CurtainHouseModel" "kept" "[I" ∈ wt) (d : decode cc pc = .ok (.getfield index, 3)) (hq : pc + 3 = q) (k : G X σ q lv (.ref (eA (xE X) (52)) :: rest)) : G X σ pc lv (.ref (eA (xE X) i) :: rest) := fun H locs ls hP hS hl => by
  subst hq
  exact va_get (ci := 5) (C := RX5) (T := TX5) (N := 20) o.x o.b o.ts in_X5 o.ow o.ck.1 hP i (cell_X5 hk o.mk) rfl 1 (by decide) (o.ts _ hf) (fun _ h => h) rfl d (k H locs ls hP hS hl)
theorem gf_X5_2 (o : OK X cc own sd nL R l) (hk : kd sd i 5) {index : Nat} (hf : Cond.fieldLink own index "CurtainHouseModel" "aside" "[I" ∈ wt) (d : decode cc pc = .ok (.getfield index, 3)) (hq : pc + 3 = q) (k : G X σ q lv (.ref (eA (xE X) (53)) :: rest)) : G X σ pc lv (.ref (eA (xE X) i) :: rest) := fun H locs ls hP hS hl => by
  subst hq
  exact va_get (ci := 5) (C := RX5) (T := TX5) (N := 20) o.x o.b o.ts in_X5 o.ow o.ck.1 hP i (cell_X5 hk o.mk) rfl 2 (by decide) (o.ts _ hf) (fun _ h => h) rfl d (k H locs ls hP hS hl)
theorem gf_X5_3 (o : OK X cc own sd nL R l) (hk : kd sd i 5) {index : Nat} (hf : Cond.fieldLink own index "CurtainHouseModel" "isKept" "Z" ∈ wt) (d : decode cc pc = .ok (.getfield index, 3)) (hq : pc + 3 = q) (k : G X σ q lv (.int (σ i 3) :: rest)) : G X σ pc lv (.ref (eA (xE X) i) :: rest) := fun H locs ls hP hS hl => by
  subst hq
  exact va_get (ci := 5) (C := RX5) (T := TX5) (N := 20) o.x o.b o.ts in_X5 o.ow o.ck.1 hP i (cell_X5 hk o.mk) rfl 3 (by decide) (o.ts _ hf) (fun _ h => h) rfl d (k H locs ls hP hS hl)
theorem gp_X5_3 (o : OK X cc own sd nL R l) (hk : kd sd i 5) {index : Nat} (hf : Cond.fieldLink own index "CurtainHouseModel" "isKept" "Z" ∈ wt) (d : decode cc pc = .ok (.putfield index, 3)) (hq : pc + 3 = q) {v : Int32} (hb : v = 0 ∨ v = 1) {K : Mem → Option ρ} (h : vW σ i 3 v K = some res) (k : ∀ σ, K σ = some res → G X σ q lv rest) : G X σ pc lv (.int v :: .ref (eA (xE X) i) :: rest) := fun H locs ls hP hS hl => by
  subst hq
  refine va_put (ci := 5) (C := RX5) (T := TX5) (N := 20) (ty := .boolean) (v := .int v) o.x o.b o.ts in_X5 tyX5 tyX5_ok nmX5 o.ow o.ck.1 hP (o.D _) hS i (cell_X5 hk o.mk) rfl 3 (by decide) (o.ts _ hf) (fun _ h => h) rfl (by decide +kernel) (by rcases hb with rfl | rfl <;> rfl) (by rcases hb with rfl | rfl <;> rfl) (Nat.le_of_ble_eq_true rfl) d (fun H1 locs1 hP1 _ hS1 => ?_)
  exact k (up2 σ i 3 v) h H1 locs1 ls (wsWset (r := upd (σ i) 3 v) hk.1 hk.2.1 o.mk (by rw [cel_X5 hk.2.2]; rfl) hP1) hS1 hl
theorem gf_X5_4 (o : OK X cc own sd nL R l) (hk : kd sd i 5) {index : Nat} (hf : Cond.fieldLink own index "CurtainHouseModel" "found" "[I" ∈ wt) (d : decode cc pc = .ok (.getfield index, 3)) (hq : pc + 3 = q) (k : G X σ q lv (.ref (eA (xE X) (54)) :: rest)) : G X σ pc lv (.ref (eA (xE X) i) :: rest) := fun H locs ls hP hS hl => by
  subst hq
  exact va_get (ci := 5) (C := RX5) (T := TX5) (N := 20) o.x o.b o.ts in_X5 o.ow o.ck.1 hP i (cell_X5 hk o.mk) rfl 4 (by decide) (o.ts _ hf) (fun _ h => h) rfl d (k H locs ls hP hS hl)
theorem gf_X5_5 (o : OK X cc own sd nL R l) (hk : kd sd i 5) {index : Nat} (hf : Cond.fieldLink own index "CurtainHouseModel" "tape" "[I" ∈ wt) (d : decode cc pc = .ok (.getfield index, 3)) (hq : pc + 3 = q) (k : G X σ q lv (.ref (eA (xE X) (55)) :: rest)) : G X σ pc lv (.ref (eA (xE X) i) :: rest) := fun H locs ls hP hS hl => by
  subst hq
  exact va_get (ci := 5) (C := RX5) (T := TX5) (N := 20) o.x o.b o.ts in_X5 o.ow o.ck.1 hP i (cell_X5 hk o.mk) rfl 5 (by decide) (o.ts _ hf) (fun _ h => h) rfl d (k H locs ls hP hS hl)
theorem gf_X5_6 (o : OK X cc own sd nL R l) (hk : kd sd i 5) {index : Nat} (hf : Cond.fieldLink own index "CurtainHouseModel" "taped" "I" ∈ wt) (d : decode cc pc = .ok (.getfield index, 3)) (hq : pc + 3 = q) (k : G X σ q lv (.int (σ i 6) :: rest)) : G X σ pc lv (.ref (eA (xE X) i) :: rest) := fun H locs ls hP hS hl => by
  subst hq
  exact va_get (ci := 5) (C := RX5) (T := TX5) (N := 20) o.x o.b o.ts in_X5 o.ow o.ck.1 hP i (cell_X5 hk o.mk) rfl 6 (by decide) (o.ts _ hf) (fun _ h => h) rfl d (k H locs ls hP hS hl)
theorem gp_X5_6 (o : OK X cc own sd nL R l) (hk : kd sd i 5) {index : Nat} (hf : Cond.fieldLink own index "CurtainHouseModel" "taped" "I" ∈ wt) (d : decode cc pc = .ok (.putfield index, 3)) (hq : pc + 3 = q) {v : Int32} {K : Mem → Option ρ} (h : vW σ i 6 v K = some res) (k : ∀ σ, K σ = some res → G X σ q lv rest) : G X σ pc lv (.int v :: .ref (eA (xE X) i) :: rest) := fun H locs ls hP hS hl => by
  subst hq
  refine va_put (ci := 5) (C := RX5) (T := TX5) (N := 20) (ty := .int) (v := .int v) o.x o.b o.ts in_X5 tyX5 tyX5_ok nmX5 o.ow o.ck.1 hP (o.D _) hS i (cell_X5 hk o.mk) rfl 6 (by decide) (o.ts _ hf) (fun _ h => h) rfl (by decide +kernel) rfl rfl (Nat.le_of_ble_eq_true rfl) d (fun H1 locs1 hP1 _ hS1 => ?_)
  exact k (up2 σ i 6 v) h H1 locs1 ls (wsWset (r := upd (σ i) 6 v) hk.1 hk.2.1 o.mk (by rw [cel_X5 hk.2.2]; rfl) hP1) hS1 hl
theorem gf_X5_7 (o : OK X cc own sd nL R l) (hk : kd sd i 5) {index : Nat} (hf : Cond.fieldLink own index "CurtainHouseModel" "begins" "I" ∈ wt) (d : decode cc pc = .ok (.getfield index, 3)) (hq : pc + 3 = q) (k : G X σ q lv (.int (σ i 7) :: rest)) : G X σ pc lv (.ref (eA (xE X) i) :: rest) := fun H locs ls hP hS hl => by
  subst hq
  exact va_get (ci := 5) (C := RX5) (T := TX5) (N := 20) o.x o.b o.ts in_X5 o.ow o.ck.1 hP i (cell_X5 hk o.mk) rfl 7 (by decide) (o.ts _ hf) (fun _ h => h) rfl d (k H locs ls hP hS hl)
theorem gp_X5_7 (o : OK X cc own sd nL R l) (hk : kd sd i 5) {index : Nat} (hf : Cond.fieldLink own index "CurtainHouseModel" "begins" "I" ∈ wt) (d : decode cc pc = .ok (.putfield index, 3)) (hq : pc + 3 = q) {v : Int32} {K : Mem → Option ρ} (h : vW σ i 7 v K = some res) (k : ∀ σ, K σ = some res → G X σ q lv rest) : G X σ pc lv (.int v :: .ref (eA (xE X) i) :: rest) := fun H locs ls hP hS hl => by
  subst hq
  refine va_put (ci := 5) (C := RX5) (T := TX5) (N := 20) (ty := .int) (v := .int v) o.x o.b o.ts in_X5 tyX5 tyX5_ok nmX5 o.ow o.ck.1 hP (o.D _) hS i (cell_X5 hk o.mk) rfl 7 (by decide) (o.ts _ hf) (fun _ h => h) rfl (by decide +kernel) rfl rfl (Nat.le_of_ble_eq_true rfl) d (fun H1 locs1 hP1 _ hS1 => ?_)
  exact k (up2 σ i 7 v) h H1 locs1 ls (wsWset (r := upd (σ i) 7 v) hk.1 hk.2.1 o.mk (by rw [cel_X5 hk.2.2]; rfl) hP1) hS1 hl
theorem gf_X5_8 (o : OK X cc own sd nL R l) (hk : kd sd i 5) {index : Nat} (hf : Cond.fieldLink own index "CurtainHouseModel" "ends" "I" ∈ wt) (d : decode cc pc = .ok (.getfield index, 3)) (hq : pc + 3 = q) (k : G X σ q lv (.int (σ i 8) :: rest)) : G X σ pc lv (.ref (eA (xE X) i) :: rest) := fun H locs ls hP hS hl => by
  subst hq
  exact va_get (ci := 5) (C := RX5) (T := TX5) (N := 20) o.x o.b o.ts in_X5 o.ow o.ck.1 hP i (cell_X5 hk o.mk) rfl 8 (by decide) (o.ts _ hf) (fun _ h => h) rfl d (k H locs ls hP hS hl)
theorem gp_X5_8 (o : OK X cc own sd nL R l) (hk : kd sd i 5) {index : Nat} (hf : Cond.fieldLink own index "CurtainHouseModel" "ends" "I" ∈ wt) (d : decode cc pc = .ok (.putfield index, 3)) (hq : pc + 3 = q) {v : Int32} {K : Mem → Option ρ} (h : vW σ i 8 v K = some res) (k : ∀ σ, K σ = some res → G X σ q lv rest) : G X σ pc lv (.int v :: .ref (eA (xE X) i) :: rest) := fun H locs ls hP hS hl => by
  subst hq
  refine va_put (ci := 5) (C := RX5) (T := TX5) (N := 20) (ty := .int) (v := .int v) o.x o.b o.ts in_X5 tyX5 tyX5_ok nmX5 o.ow o.ck.1 hP (o.D _) hS i (cell_X5 hk o.mk) rfl 8 (by decide) (o.ts _ hf) (fun _ h => h) rfl (by decide +kernel) rfl rfl (Nat.le_of_ble_eq_true rfl) d (fun H1 locs1 hP1 _ hS1 => ?_)
  exact k (up2 σ i 8 v) h H1 locs1 ls (wsWset (r := upd (σ i) 8 v) hk.1 hk.2.1 o.mk (by rw [cel_X5 hk.2.2]; rfl) hP1) hS1 hl
theorem gf_X5_9 (o : OK X cc own sd nL R l) (hk : kd sd i 5) {index : Nat} (hf : Cond.fieldLink own index "CurtainHouseModel" "sort" "I" ∈ wt) (d : decode cc pc = .ok (.getfield index, 3)) (hq : pc + 3 = q) (k : G X σ q lv (.int (σ i 9) :: rest)) : G X σ pc lv (.ref (eA (xE X) i) :: rest) := fun H locs ls hP hS hl => by
  subst hq
  exact va_get (ci := 5) (C := RX5) (T := TX5) (N := 20) o.x o.b o.ts in_X5 o.ow o.ck.1 hP i (cell_X5 hk o.mk) rfl 9 (by decide) (o.ts _ hf) (fun _ h => h) rfl d (k H locs ls hP hS hl)
theorem gp_X5_9 (o : OK X cc own sd nL R l) (hk : kd sd i 5) {index : Nat} (hf : Cond.fieldLink own index "CurtainHouseModel" "sort" "I" ∈ wt) (d : decode cc pc = .ok (.putfield index, 3)) (hq : pc + 3 = q) {v : Int32} {K : Mem → Option ρ} (h : vW σ i 9 v K = some res) (k : ∀ σ, K σ = some res → G X σ q lv rest) : G X σ pc lv (.int v :: .ref (eA (xE X) i) :: rest) := fun H locs ls hP hS hl => by
  subst hq
  refine va_put (ci := 5) (C := RX5) (T := TX5) (N := 20) (ty := .int) (v := .int v) o.x o.b o.ts in_X5 tyX5 tyX5_ok nmX5 o.ow o.ck.1 hP (o.D _) hS i (cell_X5 hk o.mk) rfl 9 (by decide) (o.ts _ hf) (fun _ h => h) rfl (by decide +kernel) rfl rfl (Nat.le_of_ble_eq_true rfl) d (fun H1 locs1 hP1 _ hS1 => ?_)
  exact k (up2 σ i 9 v) h H1 locs1 ls (wsWset (r := upd (σ i) 9 v) hk.1 hk.2.1 o.mk (by rw [cel_X5 hk.2.2]; rfl) hP1) hS1 hl
theorem gf_X5_10 (o : OK X cc own sd nL R l) (hk : kd sd i 5) {index : Nat} (hf : Cond.fieldLink own index "CurtainHouseModel" "value" "I" ∈ wt) (d : decode cc pc = .ok (.getfield index, 3)) (hq : pc + 3 = q) (k : G X σ q lv (.int (σ i 10) :: rest)) : G X σ pc lv (.ref (eA (xE X) i) :: rest) := fun H locs ls hP hS hl => by
  subst hq
  exact va_get (ci := 5) (C := RX5) (T := TX5) (N := 20) o.x o.b o.ts in_X5 o.ow o.ck.1 hP i (cell_X5 hk o.mk) rfl 10 (by decide) (o.ts _ hf) (fun _ h => h) rfl d (k H locs ls hP hS hl)
theorem gp_X5_10 (o : OK X cc own sd nL R l) (hk : kd sd i 5) {index : Nat} (hf : Cond.fieldLink own index "CurtainHouseModel" "value" "I" ∈ wt) (d : decode cc pc = .ok (.putfield index, 3)) (hq : pc + 3 = q) {v : Int32} {K : Mem → Option ρ} (h : vW σ i 10 v K = some res) (k : ∀ σ, K σ = some res → G X σ q lv rest) : G X σ pc lv (.int v :: .ref (eA (xE X) i) :: rest) := fun H locs ls hP hS hl => by
  subst hq
  refine va_put (ci := 5) (C := RX5) (T := TX5) (N := 20) (ty := .int) (v := .int v) o.x o.b o.ts in_X5 tyX5 tyX5_ok nmX5 o.ow o.ck.1 hP (o.D _) hS i (cell_X5 hk o.mk) rfl 10 (by decide) (o.ts _ hf) (fun _ h => h) rfl (by decide +kernel) rfl rfl (Nat.le_of_ble_eq_true rfl) d (fun H1 locs1 hP1 _ hS1 => ?_)
  exact k (up2 σ i 10 v) h H1 locs1 ls (wsWset (r := upd (σ i) 10 v) hk.1 hk.2.1 o.mk (by rw [cel_X5 hk.2.2]; rfl) hP1) hS1 hl
theorem gf_X5_11 (o : OK X cc own sd nL R l) (hk : kd sd i 5) {index : Nat} (hf : Cond.fieldLink own index "CurtainHouseModel" "isWrong" "Z" ∈ wt) (d : decode cc pc = .ok (.getfield index, 3)) (hq : pc + 3 = q) (k : G X σ q lv (.int (σ i 11) :: rest)) : G X σ pc lv (.ref (eA (xE X) i) :: rest) := fun H locs ls hP hS hl => by
  subst hq
  exact va_get (ci := 5) (C := RX5) (T := TX5) (N := 20) o.x o.b o.ts in_X5 o.ow o.ck.1 hP i (cell_X5 hk o.mk) rfl 11 (by decide) (o.ts _ hf) (fun _ h => h) rfl d (k H locs ls hP hS hl)
theorem gp_X5_11 (o : OK X cc own sd nL R l) (hk : kd sd i 5) {index : Nat} (hf : Cond.fieldLink own index "CurtainHouseModel" "isWrong" "Z" ∈ wt) (d : decode cc pc = .ok (.putfield index, 3)) (hq : pc + 3 = q) {v : Int32} (hb : v = 0 ∨ v = 1) {K : Mem → Option ρ} (h : vW σ i 11 v K = some res) (k : ∀ σ, K σ = some res → G X σ q lv rest) : G X σ pc lv (.int v :: .ref (eA (xE X) i) :: rest) := fun H locs ls hP hS hl => by
  subst hq
  refine va_put (ci := 5) (C := RX5) (T := TX5) (N := 20) (ty := .boolean) (v := .int v) o.x o.b o.ts in_X5 tyX5 tyX5_ok nmX5 o.ow o.ck.1 hP (o.D _) hS i (cell_X5 hk o.mk) rfl 11 (by decide) (o.ts _ hf) (fun _ h => h) rfl (by decide +kernel) (by rcases hb with rfl | rfl <;> rfl) (by rcases hb with rfl | rfl <;> rfl) (Nat.le_of_ble_eq_true rfl) d (fun H1 locs1 hP1 _ hS1 => ?_)
  exact k (up2 σ i 11 v) h H1 locs1 ls (wsWset (r := upd (σ i) 11 v) hk.1 hk.2.1 o.mk (by rw [cel_X5 hk.2.2]; rfl) hP1) hS1 hl
theorem gf_X5_12 (o : OK X cc own sd nL R l) (hk : kd sd i 5) {index : Nat} (hf : Cond.fieldLink own index "CurtainHouseModel" "kindNames" "[Ljava/lang/String;" ∈ wt) (d : decode cc pc = .ok (.getfield index, 3)) (hq : pc + 3 = q) (k : G X σ q lv (.ref (eA (xE X) (56)) :: rest)) : G X σ pc lv (.ref (eA (xE X) i) :: rest) := fun H locs ls hP hS hl => by
  subst hq
  exact va_get (ci := 5) (C := RX5) (T := TX5) (N := 20) o.x o.b o.ts in_X5 o.ow o.ck.1 hP i (cell_X5 hk o.mk) rfl 12 (by decide) (o.ts _ hf) (fun _ h => h) rfl d (k H locs ls hP hS hl)
theorem gf_X5_13 (o : OK X cc own sd nL R l) (hk : kd sd i 5) {index : Nat} (hf : Cond.fieldLink own index "CurtainHouseModel" "items" "[I" ∈ wt) (d : decode cc pc = .ok (.getfield index, 3)) (hq : pc + 3 = q) (k : G X σ q lv (.ref (eA (xE X) (57)) :: rest)) : G X σ pc lv (.ref (eA (xE X) i) :: rest) := fun H locs ls hP hS hl => by
  subst hq
  exact va_get (ci := 5) (C := RX5) (T := TX5) (N := 20) o.x o.b o.ts in_X5 o.ow o.ck.1 hP i (cell_X5 hk o.mk) rfl 13 (by decide) (o.ts _ hf) (fun _ h => h) rfl d (k H locs ls hP hS hl)
theorem gf_X5_14 (o : OK X cc own sd nL R l) (hk : kd sd i 5) {index : Nat} (hf : Cond.fieldLink own index "CurtainHouseModel" "itemMany" "I" ∈ wt) (d : decode cc pc = .ok (.getfield index, 3)) (hq : pc + 3 = q) (k : G X σ q lv (.int (σ i 14) :: rest)) : G X σ pc lv (.ref (eA (xE X) i) :: rest) := fun H locs ls hP hS hl => by
  subst hq
  exact va_get (ci := 5) (C := RX5) (T := TX5) (N := 20) o.x o.b o.ts in_X5 o.ow o.ck.1 hP i (cell_X5 hk o.mk) rfl 14 (by decide) (o.ts _ hf) (fun _ h => h) rfl d (k H locs ls hP hS hl)
theorem gp_X5_14 (o : OK X cc own sd nL R l) (hk : kd sd i 5) {index : Nat} (hf : Cond.fieldLink own index "CurtainHouseModel" "itemMany" "I" ∈ wt) (d : decode cc pc = .ok (.putfield index, 3)) (hq : pc + 3 = q) {v : Int32} {K : Mem → Option ρ} (h : vW σ i 14 v K = some res) (k : ∀ σ, K σ = some res → G X σ q lv rest) : G X σ pc lv (.int v :: .ref (eA (xE X) i) :: rest) := fun H locs ls hP hS hl => by
  subst hq
  refine va_put (ci := 5) (C := RX5) (T := TX5) (N := 20) (ty := .int) (v := .int v) o.x o.b o.ts in_X5 tyX5 tyX5_ok nmX5 o.ow o.ck.1 hP (o.D _) hS i (cell_X5 hk o.mk) rfl 14 (by decide) (o.ts _ hf) (fun _ h => h) rfl (by decide +kernel) rfl rfl (Nat.le_of_ble_eq_true rfl) d (fun H1 locs1 hP1 _ hS1 => ?_)
  exact k (up2 σ i 14 v) h H1 locs1 ls (wsWset (r := upd (σ i) 14 v) hk.1 hk.2.1 o.mk (by rw [cel_X5 hk.2.2]; rfl) hP1) hS1 hl
theorem gf_X5_15 (o : OK X cc own sd nL R l) (hk : kd sd i 5) {index : Nat} (hf : Cond.fieldLink own index "CurtainHouseModel" "curtainsThen" "I" ∈ wt) (d : decode cc pc = .ok (.getfield index, 3)) (hq : pc + 3 = q) (k : G X σ q lv (.int (σ i 15) :: rest)) : G X σ pc lv (.ref (eA (xE X) i) :: rest) := fun H locs ls hP hS hl => by
  subst hq
  exact va_get (ci := 5) (C := RX5) (T := TX5) (N := 20) o.x o.b o.ts in_X5 o.ow o.ck.1 hP i (cell_X5 hk o.mk) rfl 15 (by decide) (o.ts _ hf) (fun _ h => h) rfl d (k H locs ls hP hS hl)
theorem gp_X5_15 (o : OK X cc own sd nL R l) (hk : kd sd i 5) {index : Nat} (hf : Cond.fieldLink own index "CurtainHouseModel" "curtainsThen" "I" ∈ wt) (d : decode cc pc = .ok (.putfield index, 3)) (hq : pc + 3 = q) {v : Int32} {K : Mem → Option ρ} (h : vW σ i 15 v K = some res) (k : ∀ σ, K σ = some res → G X σ q lv rest) : G X σ pc lv (.int v :: .ref (eA (xE X) i) :: rest) := fun H locs ls hP hS hl => by
  subst hq
  refine va_put (ci := 5) (C := RX5) (T := TX5) (N := 20) (ty := .int) (v := .int v) o.x o.b o.ts in_X5 tyX5 tyX5_ok nmX5 o.ow o.ck.1 hP (o.D _) hS i (cell_X5 hk o.mk) rfl 15 (by decide) (o.ts _ hf) (fun _ h => h) rfl (by decide +kernel) rfl rfl (Nat.le_of_ble_eq_true rfl) d (fun H1 locs1 hP1 _ hS1 => ?_)
  exact k (up2 σ i 15 v) h H1 locs1 ls (wsWset (r := upd (σ i) 15 v) hk.1 hk.2.1 o.mk (by rw [cel_X5 hk.2.2]; rfl) hP1) hS1 hl
theorem gf_X5_16 (o : OK X cc own sd nL R l) (hk : kd sd i 5) {index : Nat} (hf : Cond.fieldLink own index "CurtainHouseModel" "widths" "[I" ∈ wt) (d : decode cc pc = .ok (.getfield index, 3)) (hq : pc + 3 = q) (k : G X σ q lv (.ref (eA (xE X) (58)) :: rest)) : G X σ pc lv (.ref (eA (xE X) i) :: rest) := fun H locs ls hP hS hl => by
  subst hq
  exact va_get (ci := 5) (C := RX5) (T := TX5) (N := 20) o.x o.b o.ts in_X5 o.ow o.ck.1 hP i (cell_X5 hk o.mk) rfl 16 (by decide) (o.ts _ hf) (fun _ h => h) rfl d (k H locs ls hP hS hl)
theorem gf_X5_17 (o : OK X cc own sd nL R l) (hk : kd sd i 5) {index : Nat} (hf : Cond.fieldLink own index "CurtainHouseModel" "sizes" "[I" ∈ wt) (d : decode cc pc = .ok (.getfield index, 3)) (hq : pc + 3 = q) (k : G X σ q lv (.ref (eA (xE X) (59)) :: rest)) : G X σ pc lv (.ref (eA (xE X) i) :: rest) := fun H locs ls hP hS hl => by
  subst hq
  exact va_get (ci := 5) (C := RX5) (T := TX5) (N := 20) o.x o.b o.ts in_X5 o.ow o.ck.1 hP i (cell_X5 hk o.mk) rfl 17 (by decide) (o.ts _ hf) (fun _ h => h) rfl d (k H locs ls hP hS hl)
theorem gf_X5_18 (o : OK X cc own sd nL R l) (hk : kd sd i 5) {index : Nat} (hf : Cond.fieldLink own index "CurtainHouseModel" "numbers" "[I" ∈ wt) (d : decode cc pc = .ok (.getfield index, 3)) (hq : pc + 3 = q) (k : G X σ q lv (.ref (eA (xE X) (60)) :: rest)) : G X σ pc lv (.ref (eA (xE X) i) :: rest) := fun H locs ls hP hS hl => by
  subst hq
  exact va_get (ci := 5) (C := RX5) (T := TX5) (N := 20) o.x o.b o.ts in_X5 o.ow o.ck.1 hP i (cell_X5 hk o.mk) rfl 18 (by decide) (o.ts _ hf) (fun _ h => h) rfl d (k H locs ls hP hS hl)
theorem gf_X5_19 (o : OK X cc own sd nL R l) (hk : kd sd i 5) {index : Nat} (hf : Cond.fieldLink own index "CurtainHouseModel" "moved" "[I" ∈ wt) (d : decode cc pc = .ok (.getfield index, 3)) (hq : pc + 3 = q) (k : G X σ q lv (.ref (eA (xE X) (61)) :: rest)) : G X σ pc lv (.ref (eA (xE X) i) :: rest) := fun H locs ls hP hS hl => by
  subst hq
  exact va_get (ci := 5) (C := RX5) (T := TX5) (N := 20) o.x o.b o.ts in_X5 o.ow o.ck.1 hP i (cell_X5 hk o.mk) rfl 19 (by decide) (o.ts _ hf) (fun _ h => h) rfl d (k H locs ls hP hS hl)
theorem cel_6 {E : En} {i : Nat} {r : Nat → Int32} (hk : ck i = 6) : cel E i r = .inl (eC E 0, ln i, .inl r) := by
  unfold cel
  rw [hk]
  rfl
theorem cel_7 {E : En} {i : Nat} {r : Nat → Int32} (hk : ck i = 7) : cel E i r = .inl (eC E 1, ln i, .inl r) := by
  unfold cel
  rw [hk]
  rfl
theorem cel_8 {E : En} {i : Nat} {r : Nat → Int32} (hk : ck i = 8) : cel E i r = .inl (eC E 2, ln i, .inr (.inr (.inr (.inr (fun j => some (eA E (i + 1 + j))))))) := by
  unfold cel
  rw [hk]
  rfl
theorem cel_9 {E : En} {i : Nat} {r : Nat → Int32} (hk : ck i = 9) : cel E i r = .inl (eC E 3, ln i, .inr (.inr (.inr (.inr (fun j => some (eA E (i + 1 + 2 * j))))))) := by
  unfold cel
  rw [hk]
  rfl
theorem cel_10 {E : En} {i : Nat} {r : Nat → Int32} (hk : ck i = 10) : cel E i r = .inl (eC E 4, ln i, .inr (.inr (.inr (.inr (fun j => some (eK E j)))))) := by
  unfold cel
  rw [hk]
  rfl
theorem arr_6 {E : En} {mk : Mem → Mem} {i n : Nat} {σ : Mem} (hk : ka sd i 6 n) (hm : MK mk sd) : (wsW E (mk σ))[i]? = some (eA E i, .inl (eC E 0, n, .inl (σ i))) := by
  rw [ws_get hk.1.2.1, hm.1 σ i hk.1.1, cel_6 hk.1.2.2, hk.2]
theorem arr_7 {E : En} {mk : Mem → Mem} {i n : Nat} {σ : Mem} (hk : ka sd i 7 n) (hm : MK mk sd) : (wsW E (mk σ))[i]? = some (eA E i, .inl (eC E 1, n, .inl (σ i))) := by
  rw [ws_get hk.1.2.1, hm.1 σ i hk.1.1, cel_7 hk.1.2.2, hk.2]
theorem arr_8 {E : En} {mk : Mem → Mem} {i n : Nat} {σ : Mem} (hk : ka sd i 8 n) : (wsW E (mk σ))[i]? = some (eA E i, .inl (eC E 2, n, .inr (.inr (.inr (.inr (fun j => some (eA E (i + 1 + j)))))))) := by
  rw [ws_get hk.1.2.1, cel_8 hk.1.2.2, hk.2]
theorem arr_9 {E : En} {mk : Mem → Mem} {i n : Nat} {σ : Mem} (hk : ka sd i 9 n) : (wsW E (mk σ))[i]? = some (eA E i, .inl (eC E 3, n, .inr (.inr (.inr (.inr (fun j => some (eA E (i + 1 + 2 * j)))))))) := by
  rw [ws_get hk.1.2.1, cel_9 hk.1.2.2, hk.2]
theorem arr_10 {E : En} {mk : Mem → Mem} {i n : Nat} {σ : Mem} (hk : ka sd i 10 n) : (wsW E (mk σ))[i]? = some (eA E i, .inl (eC E 4, n, .inr (.inr (.inr (.inr (fun j => some (eK E j))))))) := by
  rw [ws_get hk.1.2.1, cel_10 hk.1.2.2, hk.2]
theorem g_iald (o : OK X cc own sd nL R l) {n : Nat} (hk : ka sd i 6 n) {x : Int32} {K : Nat → Option ρ} (d : decode cc pc = .ok (.iaload, 1)) (hq : pc + 1 = q) (h : vI n x K = some res) (k : ∀ j, j < n → K j = some res → G X σ q lv (.int (σ i j) :: rest)) : G X σ pc lv (.int x :: .ref (eA (xE X) i) :: rest) := fun H locs ls hP hS hl => by
  subst hq
  obtain ⟨h1, h2, h3⟩ := vI_some h
  exact va_iald o.x o.b o.ck.1 hP i 0 (arr_6 hk o.mk) rfl h1 d (k _ h2 h3 H locs ls hP hS hl)
theorem g_bald (o : OK X cc own sd nL R l) {n : Nat} (hk : ka sd i 7 n) {x : Int32} {K : Nat → Option ρ} (d : decode cc pc = .ok (.baload, 1)) (hq : pc + 1 = q) (h : vI n x K = some res) (k : ∀ j, j < n → K j = some res → G X σ q lv (.int (σ i j) :: rest)) : G X σ pc lv (.int x :: .ref (eA (xE X) i) :: rest) := fun H locs ls hP hS hl => by
  subst hq
  obtain ⟨h1, h2, h3⟩ := vI_some h
  exact va_bald o.x o.b o.ck.1 hP i 1 (arr_7 hk o.mk) rfl h1 d (k _ h2 h3 H locs ls hP hS hl)
theorem g_aald8 (o : OK X cc own sd nL R l) {n : Nat} (hk : ka sd i 8 n) {x : Int32} {K : Nat → Option ρ} (d : decode cc pc = .ok (.aaload, 1)) (hq : pc + 1 = q) (h : vI n x K = some res) (k : ∀ j, j < n → K j = some res → G X σ q lv (.ref (eA (xE X) (i + 1 + j)) :: rest)) : G X σ pc lv (.int x :: .ref (eA (xE X) i) :: rest) := fun H locs ls hP hS hl => by
  subst hq
  obtain ⟨h1, h2, h3⟩ := vI_some h
  exact va_aldq o.x o.b o.ck.1 hP i 2 (arr_8 hk) rfl h1 d (k _ h2 h3 H locs ls hP hS hl)
theorem g_aald9 (o : OK X cc own sd nL R l) {n : Nat} (hk : ka sd i 9 n) {x : Int32} {K : Nat → Option ρ} (d : decode cc pc = .ok (.aaload, 1)) (hq : pc + 1 = q) (h : vI n x K = some res) (k : ∀ j, j < n → K j = some res → G X σ q lv (.ref (eA (xE X) (i + 1 + 2 * j)) :: rest)) : G X σ pc lv (.int x :: .ref (eA (xE X) i) :: rest) := fun H locs ls hP hS hl => by
  subst hq
  obtain ⟨h1, h2, h3⟩ := vI_some h
  exact va_aldq o.x o.b o.ck.1 hP i 3 (arr_9 hk) rfl h1 d (k _ h2 h3 H locs ls hP hS hl)
theorem g_aald10 (o : OK X cc own sd nL R l) {n : Nat} (hk : ka sd i 10 n) {x : Int32} {K : Nat → Option ρ} (d : decode cc pc = .ok (.aaload, 1)) (hq : pc + 1 = q) (h : vI n x K = some res) (k : ∀ j, j < n → K j = some res → G X σ q lv (.ref (eK (xE X) j) :: rest)) : G X σ pc lv (.int x :: .ref (eA (xE X) i) :: rest) := fun H locs ls hP hS hl => by
  subst hq
  obtain ⟨h1, h2, h3⟩ := vI_some h
  exact va_aldq o.x o.b o.ck.1 hP i 4 (arr_10 hk) rfl h1 d (k _ h2 h3 H locs ls hP hS hl)
theorem g_alen6 (o : OK X cc own sd nL R l) {n : Nat} (hk : ka sd i 6 n) {v : Int32} (hv : Int32.ofNat n = v) (d : decode cc pc = .ok (.arraylength, 1)) (hq : pc + 1 = q) (k : G X σ q lv (.int v :: rest)) : G X σ pc lv (.ref (eA (xE X) i) :: rest) := fun H locs ls hP hS hl => by
  subst hq
  exact va_alen o.x o.b o.ck.1 hP i 0 (arr_6 hk o.mk) rfl hv d (k H locs ls hP hS hl)
theorem g_alen10 (o : OK X cc own sd nL R l) {n : Nat} (hk : ka sd i 10 n) {v : Int32} (hv : Int32.ofNat n = v) (d : decode cc pc = .ok (.arraylength, 1)) (hq : pc + 1 = q) (k : G X σ q lv (.int v :: rest)) : G X σ pc lv (.ref (eA (xE X) i) :: rest) := fun H locs ls hP hS hl => by
  subst hq
  exact va_alen o.x o.b o.ck.1 hP i 4 (arr_10 hk) rfl hv d (k H locs ls hP hS hl)
theorem g_iast (o : OK X cc own sd nL R l) {n : Nat} (hk : ka sd i 6 n) {x v : Int32} {K : Nat → Mem → Option ρ} (d : decode cc pc = .ok (.iastore, 1)) (hq : pc + 1 = q) (h : vI n x (fun j => vW σ i j v (K j)) = some res) (k : ∀ j σ, K j σ = some res → G X σ q lv rest) : G X σ pc lv (.int v :: .int x :: .ref (eA (xE X) i) :: rest) := fun H locs ls hP hS hl => by
  subst hq
  obtain ⟨h1, h2, h3⟩ := vI_some h
  refine va_iast o.x o.b o.ck.1 hP (o.D _) hS i 0 (arr_6 hk o.mk) rfl h1 d (fun H1 locs1 hP1 _ hS1 => ?_)
  exact k _ (up2 σ i x.toNatClampNeg v) h3 H1 locs1 ls (wsWset (r := upd (σ i) x.toNatClampNeg v) hk.1.1 hk.1.2.1 o.mk (by rw [cel_6 hk.1.2.2, hk.2]) hP1) hS1 hl
theorem g_bast (o : OK X cc own sd nL R l) {n : Nat} (hk : ka sd i 7 n) {x v : Int32} {K : Nat → Mem → Option ρ} (d : decode cc pc = .ok (.bastore, 1)) (hq : pc + 1 = q) (h : vI n x (fun j => vW σ i j (vp_nar .byte v) (K j)) = some res) (k : ∀ j σ, K j σ = some res → G X σ q lv rest) : G X σ pc lv (.int v :: .int x :: .ref (eA (xE X) i) :: rest) := fun H locs ls hP hS hl => by
  subst hq
  obtain ⟨h1, h2, h3⟩ := vI_some h
  refine va_bast o.x o.b o.ck.1 hP (o.D _) hS i 1 (arr_7 hk o.mk) rfl h1 d (fun H1 locs1 hP1 _ hS1 => ?_)
  exact k _ (up2 σ i x.toNatClampNeg (vp_nar .byte v)) h3 H1 locs1 ls (wsWset (r := upd (σ i) x.toNatClampNeg (vp_nar .byte v)) hk.1.1 hk.1.2.1 o.mk (by rw [cel_7 hk.1.2.2, hk.2]) hP1) hS1 hl
/-- System.arraycopy of ints -/
def vY {β : Type} (σ : Mem) (i j n m : Nat) (sp dp c : Int32) (K : Mem → Option β) : Option β := if ¬ sp < 0 ∧ ¬ dp < 0 ∧ ¬ c < 0 ∧ sp.toNatClampNeg + c.toNatClampNeg ≤ n ∧ dp.toNatClampNeg + c.toNatClampNeg ≤ m then K (cpy2 σ i j sp.toNatClampNeg dp.toNatClampNeg c.toNatClampNeg) else none
theorem g_acpy (o : OK X cc own sd nL R l) {j n m : Nat} (hi : ka sd i 6 n) (hj : ka sd j 6 m) {index : Nat} (hm : Cond.methodLink own index arraycopyName ∈ wt) {sp dp c : Int32} {K : Mem → Option ρ} (d : decode cc pc = .ok (.invokestatic index, 3)) (hq : pc + 3 = q) (h : vY σ i j n m sp dp c K = some res) (hR : 1 ≤ R.frames ∧ (rest.map fun v => v.category).sum + (nativeFrameWords "java/lang/System" "arraycopy" 5 + 11) ≤ R.locals) (k : ∀ σ, K σ = some res → G X σ q lv rest) : G X σ pc lv (.int c :: .int dp :: .ref (eA (xE X) j) :: .int sp :: .ref (eA (xE X) i) :: rest) := fun H locs ls hP hS hl => by
  subst hq
  unfold vY at h
  split at h
  · rename_i cc1
    obtain ⟨c1, c2, c3, c4, c5⟩ := cc1
    refine va_copyi (ty := .int) o.x o.b (by rw [o.ml, hl.1, o.n]) o.ow (o.ts _ hm) (o.ts _ wt_ac1) (o.ts _ wt_ac2) (o.ts _ wt_ac3) o.ck.1 hP (o.D _) hS i j 0 0 (arr_6 hi o.mk) (arr_6 hj o.mk) rfl rfl rfl c1 c2 c3 c4 c5 (fun _ _ => rfl) (by rw [o.r]; exact hR.1) (by rw [o.r]; exact hR.2) d (fun H1 locs1 hP1 _ hS1 => ?_)
    exact k (cpy2 σ i j sp.toNatClampNeg dp.toNatClampNeg c.toNatClampNeg) h H1 locs1 ls (wsWset (r := va_cpy (σ i) (σ j) sp.toNatClampNeg dp.toNatClampNeg c.toNatClampNeg) hj.1.1 hj.1.2.1 o.mk (by rw [cel_6 hj.1.2.2, hj.2]) hP1) hS1 hl
  · cases h
theorem g_mmax (o : OK X cc own sd nL R l) {index : Nat} (hm : Cond.methodLink own index Lib.Math.max.name ∈ wt) {x y : Int32} (d : decode cc pc = .ok (.invokestatic index, 3)) (hq : pc + 3 = q) (hR : 1 ≤ R.frames ∧ (rest.map fun v => v.category).sum + 13 ≤ R.locals) (k : G X σ q lv (.int (if x < y then y else x) :: rest)) : G X σ pc lv (.int y :: .int x :: rest) := fun H locs ls hP hS hl => by
  subst hq
  exact va_mmax o.x o.b (by rw [o.ml, hl.1, o.n]) o.ow (o.ts _ hm) (o.ts _ wt_mx1) (o.ts _ wt_mth) (o.ts _ wt_mx2) (by rw [o.r]; exact hR.1) (by rw [o.r]; exact hR.2) (by rw [o.r]; exact o.hc) (by rw [o.r]; exact o.hs) d (k H locs ls hP hS hl)
theorem g_mmin (o : OK X cc own sd nL R l) {index : Nat} (hm : Cond.methodLink own index Lib.Math.min.name ∈ wt) {x y : Int32} (d : decode cc pc = .ok (.invokestatic index, 3)) (hq : pc + 3 = q) (hR : 1 ≤ R.frames ∧ (rest.map fun v => v.category).sum + 13 ≤ R.locals) (k : G X σ q lv (.int (if y < x then y else x) :: rest)) : G X σ pc lv (.int y :: .int x :: rest) := fun H locs ls hP hS hl => by
  subst hq
  exact va_mmin o.x o.b (by rw [o.ml, hl.1, o.n]) o.ow (o.ts _ hm) (o.ts _ wt_mn1) (o.ts _ wt_mth) (o.ts _ wt_mn2) (by rw [o.r]; exact hR.1) (by rw [o.r]; exact hR.2) (by rw [o.r]; exact o.hc) (by rw [o.r]; exact o.hs) d (k H locs ls hP hS hl)
/-! static arrays -/
theorem g_gets (o : OK X cc own sd nL R l) (t : Nat) (ht : t < 7) {index : Nat} (hf : Cond.fieldLink own index "CurtainHouse" (sNm t) "[I" ∈ wt) (d : decode cc pc = .ok (.getstatic index, 3)) (hq : pc + 3 = q) (k : G X σ q lv (.ref (eS (xE X) t) :: rest)) : G X σ pc lv rest := fun H locs ls hP hS hl => by
  subst hq
  exact va_gets o.x o.b (o.ck.2.2.1 t ht).1 hS o.ow (o.ts _ hf) (fun _ h => h) d (k H locs ls hP hS hl)
theorem g_getsN (o : OK X cc own sd nL R l) (t : Nat) (ht : t < 7) {index : Nat} (hf : Cond.fieldLinkNest own index "CurtainHouse" (sNm t) "[I" "CurtainHouse" ∈ wN) (d : decode cc pc = .ok (.getstatic index, 3)) (hq : pc + 3 = q) (k : G X σ q lv (.ref (eS (xE X) t) :: rest)) : G X σ pc lv rest := fun H locs ls hP hS hl => by
  subst hq
  exact va_getsN o.x o.b (o.ck.2.2.1 t ht).1 hS o.ow (va_Nw.use rfl (o.ck.2.2.2.2.2.2.1 _ hf)) (fun _ h => h) d (k H locs ls hP hS hl)
theorem g_tild (o : OK X cc own sd nL R l) (t : Nat) (ht : t < 7) {n : Nat} (hn : (sTab t).length = n) {x : Int32} {K : Nat → Option ρ} (d : decode cc pc = .ok (.iaload, 1)) (hq : pc + 1 = q) (h : vI n x K = some res) (k : ∀ j, j < n → K j = some res → G X σ q lv (.int ((sTab t).getD j 0) :: rest)) : G X σ pc lv (.int x :: .ref (eS (xE X) t) :: rest) := fun H locs ls hP hS hl => by
  subst hq
  subst hn
  obtain ⟨h1, h2, h3⟩ := vI_some h
  exact va_ti o.x o.b (o.ck.2.2.1 t ht).2 hS h1 rfl d (k _ h2 h3 H locs ls hP hS hl)
end MROWS
