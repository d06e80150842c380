/-! CHECKS OF THE CODE of a long method, in pieces. By program (wip/p63/gen4.py). -/
set_option maxRecDepth 100000 in
theorem pk_158_000011 : pAll 5 (pLeaf 158) 48 64 pI_158.1.1.1.1.2.2 = true := by decide +kernel
set_option maxRecDepth 100000 in
theorem pk_158_000111 : pAll 5 (pLeaf 158) 56 64 pI_158.1.1.1.2.2.2 = true := by decide +kernel
set_option maxRecDepth 100000 in
theorem pk_158_001011 : pAll 5 (pLeaf 158) 52 64 pI_158.1.1.2.1.2.2 = true := by decide +kernel
set_option maxRecDepth 100000 in
theorem pk_158_001111 : pAll 5 (pLeaf 158) 60 64 pI_158.1.1.2.2.2.2 = true := by decide +kernel
set_option maxRecDepth 100000 in
theorem pk_158_010011 : pAll 5 (pLeaf 158) 50 64 pI_158.1.2.1.1.2.2 = true := by decide +kernel
set_option maxRecDepth 100000 in
theorem pk_158_010111 : pAll 5 (pLeaf 158) 58 64 pI_158.1.2.1.2.2.2 = true := by decide +kernel
set_option maxRecDepth 100000 in
theorem pk_158_011011 : pAll 5 (pLeaf 158) 54 64 pI_158.1.2.2.1.2.2 = true := by decide +kernel
set_option maxRecDepth 100000 in
theorem pk_158_011111 : pAll 5 (pLeaf 158) 62 64 pI_158.1.2.2.2.2.2 = true := by decide +kernel
set_option maxRecDepth 100000 in
theorem pk_158_100011 : pAll 5 (pLeaf 158) 49 64 pI_158.2.1.1.1.2.2 = true := by decide +kernel
set_option maxRecDepth 100000 in
theorem pk_158_100111 : pAll 5 (pLeaf 158) 57 64 pI_158.2.1.1.2.2.2 = true := by decide +kernel
set_option maxRecDepth 100000 in
theorem pk_158_101011 : pAll 5 (pLeaf 158) 53 64 pI_158.2.1.2.1.2.2 = true := by decide +kernel
set_option maxRecDepth 100000 in
theorem pk_158_101111 : pAll 5 (pLeaf 158) 61 64 pI_158.2.1.2.2.2.2 = true := by decide +kernel
set_option maxRecDepth 100000 in
theorem pk_158_110011 : pAll 5 (pLeaf 158) 51 64 pI_158.2.2.1.1.2.2 = true := by decide +kernel
set_option maxRecDepth 100000 in
theorem pk_158_110111 : pAll 5 (pLeaf 158) 59 64 pI_158.2.2.1.2.2.2 = true := by decide +kernel
set_option maxRecDepth 100000 in
theorem pk_158_111011 : pAll 5 (pLeaf 158) 55 64 pI_158.2.2.2.1.2.2 = true := by decide +kernel
set_option maxRecDepth 100000 in
theorem pk_158_111111 : pAll 5 (pLeaf 158) 63 64 pI_158.2.2.2.2.2.2 = true := by decide +kernel
